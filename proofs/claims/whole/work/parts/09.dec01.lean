theorem d_mk_addEntry_112 : decode (mz_c M_mk_addEntry) 112 = .ok (.getfield 45, 3) := by decide +kernel
theorem d_mk_addEntry_115 : decode (mz_c M_mk_addEntry) 115 = .ok (.iload_n 1, 1) := by decide +kernel
theorem d_mk_addEntry_116 : decode (mz_c M_mk_addEntry) 116 = .ok (.iastore, 1) := by decide +kernel
theorem d_mk_addEntry_117 : decode (mz_c M_mk_addEntry) 117 = .ok (.aload_n 0, 1) := by decide +kernel
theorem d_mk_addEntry_118 : decode (mz_c M_mk_addEntry) 118 = .ok (.dup, 1) := by decide +kernel
theorem d_mk_addEntry_119 : decode (mz_c M_mk_addEntry) 119 = .ok (.getfield 45, 3) := by decide +kernel
theorem d_mk_addEntry_122 : decode (mz_c M_mk_addEntry) 122 = .ok (.iconst 1, 1) := by decide +kernel
theorem d_mk_addEntry_123 : decode (mz_c M_mk_addEntry) 123 = .ok (.iadd, 1) := by decide +kernel
theorem d_mk_addEntry_124 : decode (mz_c M_mk_addEntry) 124 = .ok (.putfield 45, 3) := by decide +kernel
theorem d_mk_addEntry_127 : decode (mz_c M_mk_addEntry) 127 = .ok (.return_, 1) := by decide +kernel
theorem d_mk_settleInto_0 : decode (mz_c M_mk_settleInto) 0 = .ok (.aload_n 0, 1) := by decide +kernel
theorem d_mk_settleInto_1 : decode (mz_c M_mk_settleInto) 1 = .ok (.invokevirtual 86, 3) := by decide +kernel
theorem d_mk_settleInto_4 : decode (mz_c M_mk_settleInto) 4 = .ok (.istore_n 2, 1) := by decide +kernel
theorem d_mk_settleInto_5 : decode (mz_c M_mk_settleInto) 5 = .ok (.aload_n 0, 1) := by decide +kernel
theorem d_mk_settleInto_6 : decode (mz_c M_mk_settleInto) 6 = .ok (.iload_n 2, 1) := by decide +kernel
theorem d_mk_settleInto_7 : decode (mz_c M_mk_settleInto) 7 = .ok (.invokevirtual 90, 3) := by decide +kernel
theorem d_mk_settleInto_10 : decode (mz_c M_mk_settleInto) 10 = .ok (.pop, 1) := by decide +kernel
theorem d_mk_settleInto_11 : decode (mz_c M_mk_settleInto) 11 = .ok (.aload_n 1, 1) := by decide +kernel
theorem d_mk_settleInto_12 : decode (mz_c M_mk_settleInto) 12 = .ok (.aload_n 0, 1) := by decide +kernel
theorem d_mk_settleInto_13 : decode (mz_c M_mk_settleInto) 13 = .ok (.iload_n 2, 1) := by decide +kernel
theorem d_mk_settleInto_14 : decode (mz_c M_mk_settleInto) 14 = .ok (.invokevirtual 93, 3) := by decide +kernel
theorem d_mk_settleInto_17 : decode (mz_c M_mk_settleInto) 17 = .ok (.putfield 97, 3) := by decide +kernel
theorem d_mk_settleInto_20 : decode (mz_c M_mk_settleInto) 20 = .ok (.aload_n 1, 1) := by decide +kernel
theorem d_mk_settleInto_21 : decode (mz_c M_mk_settleInto) 21 = .ok (.iload_n 2, 1) := by decide +kernel
theorem d_mk_settleInto_22 : decode (mz_c M_mk_settleInto) 22 = .ok (.putfield 103, 3) := by decide +kernel
theorem d_mk_settleInto_25 : decode (mz_c M_mk_settleInto) 25 = .ok (.iconst 0, 1) := by decide +kernel
theorem d_mk_settleInto_26 : decode (mz_c M_mk_settleInto) 26 = .ok (.istore_n 3, 1) := by decide +kernel
theorem d_mk_settleInto_27 : decode (mz_c M_mk_settleInto) 27 = .ok (.iload_n 3, 1) := by decide +kernel
theorem d_mk_settleInto_28 : decode (mz_c M_mk_settleInto) 28 = .ok (.iconst 3, 1) := by decide +kernel
theorem d_mk_settleInto_29 : decode (mz_c M_mk_settleInto) 29 = .ok (.if_icmp .ge 39, 3) := by decide +kernel
theorem d_mk_settleInto_32 : decode (mz_c M_mk_settleInto) 32 = .ok (.aload_n 1, 1) := by decide +kernel
theorem d_mk_settleInto_33 : decode (mz_c M_mk_settleInto) 33 = .ok (.getfield 106, 3) := by decide +kernel
theorem d_mk_settleInto_36 : decode (mz_c M_mk_settleInto) 36 = .ok (.iload_n 3, 1) := by decide +kernel
theorem d_mk_settleInto_37 : decode (mz_c M_mk_settleInto) 37 = .ok (.aload_n 0, 1) := by decide +kernel
theorem d_mk_settleInto_38 : decode (mz_c M_mk_settleInto) 38 = .ok (.getfield 17, 3) := by decide +kernel
theorem d_mk_settleInto_41 : decode (mz_c M_mk_settleInto) 41 = .ok (.iload_n 3, 1) := by decide +kernel
theorem d_mk_settleInto_42 : decode (mz_c M_mk_settleInto) 42 = .ok (.aaload, 1) := by decide +kernel
theorem d_mk_settleInto_43 : decode (mz_c M_mk_settleInto) 43 = .ok (.getfield 109, 3) := by decide +kernel
theorem d_mk_settleInto_46 : decode (mz_c M_mk_settleInto) 46 = .ok (.iastore, 1) := by decide +kernel
theorem d_mk_settleInto_47 : decode (mz_c M_mk_settleInto) 47 = .ok (.aload_n 1, 1) := by decide +kernel
theorem d_mk_settleInto_48 : decode (mz_c M_mk_settleInto) 48 = .ok (.getfield 112, 3) := by decide +kernel
theorem d_mk_settleInto_51 : decode (mz_c M_mk_settleInto) 51 = .ok (.iload_n 3, 1) := by decide +kernel
theorem d_mk_settleInto_52 : decode (mz_c M_mk_settleInto) 52 = .ok (.aload_n 0, 1) := by decide +kernel
theorem d_mk_settleInto_53 : decode (mz_c M_mk_settleInto) 53 = .ok (.getfield 17, 3) := by decide +kernel
theorem d_mk_settleInto_56 : decode (mz_c M_mk_settleInto) 56 = .ok (.iload_n 3, 1) := by decide +kernel
theorem d_mk_settleInto_57 : decode (mz_c M_mk_settleInto) 57 = .ok (.aaload, 1) := by decide +kernel
theorem d_mk_settleInto_58 : decode (mz_c M_mk_settleInto) 58 = .ok (.getfield 115, 3) := by decide +kernel
theorem d_mk_settleInto_61 : decode (mz_c M_mk_settleInto) 61 = .ok (.iastore, 1) := by decide +kernel
theorem d_mk_settleInto_62 : decode (mz_c M_mk_settleInto) 62 = .ok (.iinc 3 1, 3) := by decide +kernel
theorem d_mk_settleInto_65 : decode (mz_c M_mk_settleInto) 65 = .ok (.goto (-38), 3) := by decide +kernel
theorem d_mk_settleInto_68 : decode (mz_c M_mk_settleInto) 68 = .ok (.aload_n 0, 1) := by decide +kernel
theorem d_mk_settleInto_69 : decode (mz_c M_mk_settleInto) 69 = .ok (.aload_n 1, 1) := by decide +kernel
theorem d_mk_settleInto_70 : decode (mz_c M_mk_settleInto) 70 = .ok (.iload_n 2, 1) := by decide +kernel
theorem d_mk_settleInto_71 : decode (mz_c M_mk_settleInto) 71 = .ok (.invokevirtual 118, 3) := by decide +kernel
theorem d_mk_settleInto_74 : decode (mz_c M_mk_settleInto) 74 = .ok (.iconst 0, 1) := by decide +kernel
theorem d_mk_settleInto_75 : decode (mz_c M_mk_settleInto) 75 = .ok (.istore_n 3, 1) := by decide +kernel
theorem d_mk_settleInto_76 : decode (mz_c M_mk_settleInto) 76 = .ok (.iload_n 3, 1) := by decide +kernel
theorem d_mk_settleInto_77 : decode (mz_c M_mk_settleInto) 77 = .ok (.iconst 3, 1) := by decide +kernel
theorem d_mk_settleInto_78 : decode (mz_c M_mk_settleInto) 78 = .ok (.if_icmp .ge 23, 3) := by decide +kernel
theorem d_mk_settleInto_81 : decode (mz_c M_mk_settleInto) 81 = .ok (.aload_n 0, 1) := by decide +kernel
theorem d_mk_settleInto_82 : decode (mz_c M_mk_settleInto) 82 = .ok (.aload_n 1, 1) := by decide +kernel
theorem d_mk_settleInto_83 : decode (mz_c M_mk_settleInto) 83 = .ok (.iload_n 3, 1) := by decide +kernel
theorem d_mk_settleInto_84 : decode (mz_c M_mk_settleInto) 84 = .ok (.iconst 0, 1) := by decide +kernel
theorem d_mk_settleInto_85 : decode (mz_c M_mk_settleInto) 85 = .ok (.invokevirtual 122, 3) := by decide +kernel
theorem d_mk_settleInto_88 : decode (mz_c M_mk_settleInto) 88 = .ok (.aload_n 0, 1) := by decide +kernel
theorem d_mk_settleInto_89 : decode (mz_c M_mk_settleInto) 89 = .ok (.aload_n 1, 1) := by decide +kernel
theorem d_mk_settleInto_90 : decode (mz_c M_mk_settleInto) 90 = .ok (.iload_n 3, 1) := by decide +kernel
theorem d_mk_settleInto_91 : decode (mz_c M_mk_settleInto) 91 = .ok (.iconst 1, 1) := by decide +kernel
theorem d_mk_settleInto_92 : decode (mz_c M_mk_settleInto) 92 = .ok (.invokevirtual 122, 3) := by decide +kernel
theorem d_mk_settleInto_95 : decode (mz_c M_mk_settleInto) 95 = .ok (.iinc 3 1, 3) := by decide +kernel
theorem d_mk_settleInto_98 : decode (mz_c M_mk_settleInto) 98 = .ok (.goto (-22), 3) := by decide +kernel
theorem d_mk_settleInto_101 : decode (mz_c M_mk_settleInto) 101 = .ok (.aload_n 1, 1) := by decide +kernel
theorem d_mk_settleInto_102 : decode (mz_c M_mk_settleInto) 102 = .ok (.iconst 1, 1) := by decide +kernel
theorem d_mk_settleInto_103 : decode (mz_c M_mk_settleInto) 103 = .ok (.putfield 126, 3) := by decide +kernel
theorem d_mk_settleInto_106 : decode (mz_c M_mk_settleInto) 106 = .ok (.return_, 1) := by decide +kernel
theorem d_mk_bestSet_0 : decode (mz_c M_mk_bestSet) 0 = .ok (.iconst 0, 1) := by decide +kernel
theorem d_mk_bestSet_1 : decode (mz_c M_mk_bestSet) 1 = .ok (.istore_n 1, 1) := by decide +kernel
theorem d_mk_bestSet_2 : decode (mz_c M_mk_bestSet) 2 = .ok (.aload_n 0, 1) := by decide +kernel
theorem d_mk_bestSet_3 : decode (mz_c M_mk_bestSet) 3 = .ok (.iload_n 1, 1) := by decide +kernel
theorem d_mk_bestSet_4 : decode (mz_c M_mk_bestSet) 4 = .ok (.invokevirtual 90, 3) := by decide +kernel
theorem d_mk_bestSet_7 : decode (mz_c M_mk_bestSet) 7 = .ok (.pop, 1) := by decide +kernel
theorem d_mk_bestSet_8 : decode (mz_c M_mk_bestSet) 8 = .ok (.aload_n 0, 1) := by decide +kernel
theorem d_mk_bestSet_9 : decode (mz_c M_mk_bestSet) 9 = .ok (.iload_n 1, 1) := by decide +kernel
theorem d_mk_bestSet_10 : decode (mz_c M_mk_bestSet) 10 = .ok (.invokevirtual 93, 3) := by decide +kernel
theorem d_mk_bestSet_13 : decode (mz_c M_mk_bestSet) 13 = .ok (.lstore_n 2, 1) := by decide +kernel
theorem d_mk_bestSet_14 : decode (mz_c M_mk_bestSet) 14 = .ok (.iconst 1, 1) := by decide +kernel
theorem d_mk_bestSet_15 : decode (mz_c M_mk_bestSet) 15 = .ok (.istore 4, 2) := by decide +kernel
theorem d_mk_bestSet_17 : decode (mz_c M_mk_bestSet) 17 = .ok (.iload 4, 2) := by decide +kernel
theorem d_mk_bestSet_19 : decode (mz_c M_mk_bestSet) 19 = .ok (.iconst 1, 1) := by decide +kernel
theorem d_mk_bestSet_20 : decode (mz_c M_mk_bestSet) 20 = .ok (.aload_n 0, 1) := by decide +kernel
theorem d_mk_bestSet_21 : decode (mz_c M_mk_bestSet) 21 = .ok (.getfield 45, 3) := by decide +kernel
theorem d_mk_bestSet_24 : decode (mz_c M_mk_bestSet) 24 = .ok (.ishl, 1) := by decide +kernel
theorem d_mk_bestSet_25 : decode (mz_c M_mk_bestSet) 25 = .ok (.if_icmp .ge 39, 3) := by decide +kernel
theorem d_mk_bestSet_28 : decode (mz_c M_mk_bestSet) 28 = .ok (.aload_n 0, 1) := by decide +kernel
theorem d_mk_bestSet_29 : decode (mz_c M_mk_bestSet) 29 = .ok (.iload 4, 2) := by decide +kernel
theorem d_mk_bestSet_31 : decode (mz_c M_mk_bestSet) 31 = .ok (.invokevirtual 130, 3) := by decide +kernel
theorem d_mk_bestSet_34 : decode (mz_c M_mk_bestSet) 34 = .ok (.ifCond .eq 24, 3) := by decide +kernel
theorem d_mk_bestSet_37 : decode (mz_c M_mk_bestSet) 37 = .ok (.aload_n 0, 1) := by decide +kernel
theorem d_mk_bestSet_38 : decode (mz_c M_mk_bestSet) 38 = .ok (.iload 4, 2) := by decide +kernel
theorem d_mk_bestSet_40 : decode (mz_c M_mk_bestSet) 40 = .ok (.invokevirtual 93, 3) := by decide +kernel
theorem d_mk_bestSet_43 : decode (mz_c M_mk_bestSet) 43 = .ok (.lstore 5, 2) := by decide +kernel
theorem d_mk_bestSet_45 : decode (mz_c M_mk_bestSet) 45 = .ok (.lload 5, 2) := by decide +kernel
theorem d_mk_bestSet_47 : decode (mz_c M_mk_bestSet) 47 = .ok (.lload_n 2, 1) := by decide +kernel
theorem d_mk_bestSet_48 : decode (mz_c M_mk_bestSet) 48 = .ok (.lcmp, 1) := by decide +kernel
theorem d_mk_bestSet_49 : decode (mz_c M_mk_bestSet) 49 = .ok (.ifCond .le 9, 3) := by decide +kernel
theorem d_mk_bestSet_52 : decode (mz_c M_mk_bestSet) 52 = .ok (.lload 5, 2) := by decide +kernel
theorem d_mk_bestSet_54 : decode (mz_c M_mk_bestSet) 54 = .ok (.lstore_n 2, 1) := by decide +kernel
theorem d_mk_bestSet_55 : decode (mz_c M_mk_bestSet) 55 = .ok (.iload 4, 2) := by decide +kernel
theorem d_mk_bestSet_57 : decode (mz_c M_mk_bestSet) 57 = .ok (.istore_n 1, 1) := by decide +kernel
theorem d_mk_bestSet_58 : decode (mz_c M_mk_bestSet) 58 = .ok (.iinc 4 1, 3) := by decide +kernel
theorem d_mk_bestSet_61 : decode (mz_c M_mk_bestSet) 61 = .ok (.goto (-44), 3) := by decide +kernel
theorem d_mk_bestSet_64 : decode (mz_c M_mk_bestSet) 64 = .ok (.iload_n 1, 1) := by decide +kernel
theorem d_mk_bestSet_65 : decode (mz_c M_mk_bestSet) 65 = .ok (.ireturn, 1) := by decide +kernel
theorem d_mk_isFit_0 : decode (mz_c M_mk_isFit) 0 = .ok (.aload_n 0, 1) := by decide +kernel
theorem d_mk_isFit_1 : decode (mz_c M_mk_isFit) 1 = .ok (.iload_n 1, 1) := by decide +kernel
theorem d_mk_isFit_2 : decode (mz_c M_mk_isFit) 2 = .ok (.invokevirtual 90, 3) := by decide +kernel
theorem d_mk_isFit_5 : decode (mz_c M_mk_isFit) 5 = .ok (.ifCond .ne 5, 3) := by decide +kernel
theorem d_mk_isFit_8 : decode (mz_c M_mk_isFit) 8 = .ok (.iconst 0, 1) := by decide +kernel
theorem d_mk_isFit_9 : decode (mz_c M_mk_isFit) 9 = .ok (.ireturn, 1) := by decide +kernel
theorem d_mk_isFit_10 : decode (mz_c M_mk_isFit) 10 = .ok (.iconst 0, 1) := by decide +kernel
theorem d_mk_isFit_11 : decode (mz_c M_mk_isFit) 11 = .ok (.istore_n 2, 1) := by decide +kernel
theorem d_mk_isFit_12 : decode (mz_c M_mk_isFit) 12 = .ok (.iload_n 2, 1) := by decide +kernel
theorem d_mk_isFit_13 : decode (mz_c M_mk_isFit) 13 = .ok (.aload_n 0, 1) := by decide +kernel
theorem d_mk_isFit_14 : decode (mz_c M_mk_isFit) 14 = .ok (.getfield 45, 3) := by decide +kernel
theorem d_mk_isFit_17 : decode (mz_c M_mk_isFit) 17 = .ok (.if_icmp .ge 32, 3) := by decide +kernel
theorem d_mk_isFit_20 : decode (mz_c M_mk_isFit) 20 = .ok (.iload_n 1, 1) := by decide +kernel
theorem d_mk_isFit_21 : decode (mz_c M_mk_isFit) 21 = .ok (.iload_n 2, 1) := by decide +kernel
theorem d_mk_isFit_22 : decode (mz_c M_mk_isFit) 22 = .ok (.invokestatic 133, 3) := by decide +kernel
theorem d_mk_isFit_25 : decode (mz_c M_mk_isFit) 25 = .ok (.ifCond .eq 18, 3) := by decide +kernel
theorem d_mk_isFit_28 : decode (mz_c M_mk_isFit) 28 = .ok (.aload_n 0, 1) := by decide +kernel
theorem d_mk_isFit_29 : decode (mz_c M_mk_isFit) 29 = .ok (.aload_n 0, 1) := by decide +kernel
theorem d_mk_isFit_30 : decode (mz_c M_mk_isFit) 30 = .ok (.getfield 32, 3) := by decide +kernel
theorem d_mk_isFit_33 : decode (mz_c M_mk_isFit) 33 = .ok (.iload_n 2, 1) := by decide +kernel
theorem d_mk_isFit_34 : decode (mz_c M_mk_isFit) 34 = .ok (.iaload, 1) := by decide +kernel
theorem d_mk_isFit_35 : decode (mz_c M_mk_isFit) 35 = .ok (.invokevirtual 137, 3) := by decide +kernel
theorem d_mk_isFit_38 : decode (mz_c M_mk_isFit) 38 = .ok (.ifCond .eq 5, 3) := by decide +kernel
theorem d_mk_isFit_41 : decode (mz_c M_mk_isFit) 41 = .ok (.iconst 0, 1) := by decide +kernel
theorem d_mk_isFit_42 : decode (mz_c M_mk_isFit) 42 = .ok (.ireturn, 1) := by decide +kernel
theorem d_mk_isFit_43 : decode (mz_c M_mk_isFit) 43 = .ok (.iinc 2 1, 3) := by decide +kernel
theorem d_mk_isFit_46 : decode (mz_c M_mk_isFit) 46 = .ok (.goto (-34), 3) := by decide +kernel
theorem d_mk_isFit_49 : decode (mz_c M_mk_isFit) 49 = .ok (.iconst 1, 1) := by decide +kernel
theorem d_mk_isFit_50 : decode (mz_c M_mk_isFit) 50 = .ok (.ireturn, 1) := by decide +kernel
theorem d_mk_findPrices_0 : decode (mz_c M_mk_findPrices) 0 = .ok (.aload_n 0, 1) := by decide +kernel
theorem d_mk_findPrices_1 : decode (mz_c M_mk_findPrices) 1 = .ok (.iload_n 1, 1) := by decide +kernel
theorem d_mk_findPrices_2 : decode (mz_c M_mk_findPrices) 2 = .ok (.invokevirtual 140, 3) := by decide +kernel
theorem d_mk_findPrices_5 : decode (mz_c M_mk_findPrices) 5 = .ok (.iconst 0, 1) := by decide +kernel
theorem d_mk_findPrices_6 : decode (mz_c M_mk_findPrices) 6 = .ok (.istore_n 2, 1) := by decide +kernel
theorem d_mk_findPrices_7 : decode (mz_c M_mk_findPrices) 7 = .ok (.iload_n 2, 1) := by decide +kernel
theorem d_mk_findPrices_8 : decode (mz_c M_mk_findPrices) 8 = .ok (.iconst 3, 1) := by decide +kernel
theorem d_mk_findPrices_9 : decode (mz_c M_mk_findPrices) 9 = .ok (.if_icmp .ge 36, 3) := by decide +kernel
theorem d_mk_findPrices_12 : decode (mz_c M_mk_findPrices) 12 = .ok (.aload_n 0, 1) := by decide +kernel
theorem d_mk_findPrices_13 : decode (mz_c M_mk_findPrices) 13 = .ok (.getfield 17, 3) := by decide +kernel
theorem d_mk_findPrices_16 : decode (mz_c M_mk_findPrices) 16 = .ok (.iload_n 2, 1) := by decide +kernel
theorem d_mk_findPrices_17 : decode (mz_c M_mk_findPrices) 17 = .ok (.aaload, 1) := by decide +kernel
theorem d_mk_findPrices_18 : decode (mz_c M_mk_findPrices) 18 = .ok (.aload_n 0, 1) := by decide +kernel
theorem d_mk_findPrices_19 : decode (mz_c M_mk_findPrices) 19 = .ok (.getfield 35, 3) := by decide +kernel
theorem d_mk_findPrices_22 : decode (mz_c M_mk_findPrices) 22 = .ok (.iload_n 2, 1) := by decide +kernel
theorem d_mk_findPrices_23 : decode (mz_c M_mk_findPrices) 23 = .ok (.iaload, 1) := by decide +kernel
theorem d_mk_findPrices_24 : decode (mz_c M_mk_findPrices) 24 = .ok (.aload_n 0, 1) := by decide +kernel
theorem d_mk_findPrices_25 : decode (mz_c M_mk_findPrices) 25 = .ok (.getfield 38, 3) := by decide +kernel
theorem d_mk_findPrices_28 : decode (mz_c M_mk_findPrices) 28 = .ok (.iload_n 2, 1) := by decide +kernel
theorem d_mk_findPrices_29 : decode (mz_c M_mk_findPrices) 29 = .ok (.iaload, 1) := by decide +kernel
theorem d_mk_findPrices_30 : decode (mz_c M_mk_findPrices) 30 = .ok (.isub, 1) := by decide +kernel
theorem d_mk_findPrices_31 : decode (mz_c M_mk_findPrices) 31 = .ok (.invokevirtual 144, 3) := by decide +kernel
theorem d_mk_findPrices_34 : decode (mz_c M_mk_findPrices) 34 = .ok (.ifCond .ne 5, 3) := by decide +kernel
theorem d_mk_findPrices_37 : decode (mz_c M_mk_findPrices) 37 = .ok (.iconst 0, 1) := by decide +kernel
theorem d_mk_findPrices_38 : decode (mz_c M_mk_findPrices) 38 = .ok (.ireturn, 1) := by decide +kernel
theorem d_mk_findPrices_39 : decode (mz_c M_mk_findPrices) 39 = .ok (.iinc 2 1, 3) := by decide +kernel
theorem d_mk_findPrices_42 : decode (mz_c M_mk_findPrices) 42 = .ok (.goto (-35), 3) := by decide +kernel
theorem d_mk_findPrices_45 : decode (mz_c M_mk_findPrices) 45 = .ok (.iconst 1, 1) := by decide +kernel
theorem d_mk_findPrices_46 : decode (mz_c M_mk_findPrices) 46 = .ok (.ireturn, 1) := by decide +kernel
theorem d_mk_sumBlocks_0 : decode (mz_c M_mk_sumBlocks) 0 = .ok (.iconst 0, 1) := by decide +kernel
theorem d_mk_sumBlocks_1 : decode (mz_c M_mk_sumBlocks) 1 = .ok (.istore_n 2, 1) := by decide +kernel
theorem d_mk_sumBlocks_2 : decode (mz_c M_mk_sumBlocks) 2 = .ok (.iload_n 2, 1) := by decide +kernel
theorem d_mk_sumBlocks_3 : decode (mz_c M_mk_sumBlocks) 3 = .ok (.iconst 3, 1) := by decide +kernel
theorem d_mk_sumBlocks_4 : decode (mz_c M_mk_sumBlocks) 4 = .ok (.if_icmp .ge 75, 3) := by decide +kernel
theorem d_mk_sumBlocks_7 : decode (mz_c M_mk_sumBlocks) 7 = .ok (.aload_n 0, 1) := by decide +kernel
theorem d_mk_sumBlocks_8 : decode (mz_c M_mk_sumBlocks) 8 = .ok (.getfield 35, 3) := by decide +kernel
theorem d_mk_sumBlocks_11 : decode (mz_c M_mk_sumBlocks) 11 = .ok (.iload_n 2, 1) := by decide +kernel
theorem d_mk_sumBlocks_12 : decode (mz_c M_mk_sumBlocks) 12 = .ok (.iconst 0, 1) := by decide +kernel
theorem d_mk_sumBlocks_13 : decode (mz_c M_mk_sumBlocks) 13 = .ok (.iastore, 1) := by decide +kernel
theorem d_mk_sumBlocks_14 : decode (mz_c M_mk_sumBlocks) 14 = .ok (.aload_n 0, 1) := by decide +kernel
theorem d_mk_sumBlocks_15 : decode (mz_c M_mk_sumBlocks) 15 = .ok (.getfield 38, 3) := by decide +kernel
theorem d_mk_sumBlocks_18 : decode (mz_c M_mk_sumBlocks) 18 = .ok (.iload_n 2, 1) := by decide +kernel
theorem d_mk_sumBlocks_19 : decode (mz_c M_mk_sumBlocks) 19 = .ok (.iconst 0, 1) := by decide +kernel
theorem d_mk_sumBlocks_20 : decode (mz_c M_mk_sumBlocks) 20 = .ok (.iastore, 1) := by decide +kernel
theorem d_mk_sumBlocks_21 : decode (mz_c M_mk_sumBlocks) 21 = .ok (.iconst 0, 1) := by decide +kernel
theorem d_mk_sumBlocks_22 : decode (mz_c M_mk_sumBlocks) 22 = .ok (.istore_n 3, 1) := by decide +kernel
theorem d_mk_sumBlocks_23 : decode (mz_c M_mk_sumBlocks) 23 = .ok (.iload_n 3, 1) := by decide +kernel
theorem d_mk_sumBlocks_24 : decode (mz_c M_mk_sumBlocks) 24 = .ok (.aload_n 0, 1) := by decide +kernel
theorem d_mk_sumBlocks_25 : decode (mz_c M_mk_sumBlocks) 25 = .ok (.getfield 45, 3) := by decide +kernel
theorem d_mk_sumBlocks_28 : decode (mz_c M_mk_sumBlocks) 28 = .ok (.if_icmp .ge 45, 3) := by decide +kernel
theorem d_mk_sumBlocks_31 : decode (mz_c M_mk_sumBlocks) 31 = .ok (.iload_n 1, 1) := by decide +kernel
theorem d_mk_sumBlocks_32 : decode (mz_c M_mk_sumBlocks) 32 = .ok (.iload_n 3, 1) := by decide +kernel
theorem d_mk_sumBlocks_33 : decode (mz_c M_mk_sumBlocks) 33 = .ok (.invokestatic 133, 3) := by decide +kernel
theorem d_mk_sumBlocks_36 : decode (mz_c M_mk_sumBlocks) 36 = .ok (.ifCond .eq 31, 3) := by decide +kernel
theorem d_mk_sumBlocks_39 : decode (mz_c M_mk_sumBlocks) 39 = .ok (.aload_n 0, 1) := by decide +kernel
theorem d_mk_sumBlocks_40 : decode (mz_c M_mk_sumBlocks) 40 = .ok (.getfield 9, 3) := by decide +kernel
theorem d_mk_sumBlocks_43 : decode (mz_c M_mk_sumBlocks) 43 = .ok (.aload_n 0, 1) := by decide +kernel
theorem d_mk_sumBlocks_44 : decode (mz_c M_mk_sumBlocks) 44 = .ok (.getfield 32, 3) := by decide +kernel
theorem d_mk_sumBlocks_47 : decode (mz_c M_mk_sumBlocks) 47 = .ok (.iload_n 3, 1) := by decide +kernel
theorem d_mk_sumBlocks_48 : decode (mz_c M_mk_sumBlocks) 48 = .ok (.iaload, 1) := by decide +kernel
theorem d_mk_sumBlocks_49 : decode (mz_c M_mk_sumBlocks) 49 = .ok (.iload_n 2, 1) := by decide +kernel
theorem d_mk_sumBlocks_50 : decode (mz_c M_mk_sumBlocks) 50 = .ok (.invokevirtual 147, 3) := by decide +kernel
theorem d_mk_sumBlocks_53 : decode (mz_c M_mk_sumBlocks) 53 = .ok (.ifCond .eq 14, 3) := by decide +kernel
theorem d_mk_sumBlocks_56 : decode (mz_c M_mk_sumBlocks) 56 = .ok (.aload_n 0, 1) := by decide +kernel
theorem d_mk_sumBlocks_57 : decode (mz_c M_mk_sumBlocks) 57 = .ok (.iload_n 2, 1) := by decide +kernel
theorem d_mk_sumBlocks_58 : decode (mz_c M_mk_sumBlocks) 58 = .ok (.aload_n 0, 1) := by decide +kernel
theorem d_mk_sumBlocks_59 : decode (mz_c M_mk_sumBlocks) 59 = .ok (.getfield 32, 3) := by decide +kernel
theorem d_mk_sumBlocks_62 : decode (mz_c M_mk_sumBlocks) 62 = .ok (.iload_n 3, 1) := by decide +kernel
theorem d_mk_sumBlocks_63 : decode (mz_c M_mk_sumBlocks) 63 = .ok (.iaload, 1) := by decide +kernel
theorem d_mk_sumBlocks_64 : decode (mz_c M_mk_sumBlocks) 64 = .ok (.invokevirtual 150, 3) := by decide +kernel
theorem d_mk_sumBlocks_67 : decode (mz_c M_mk_sumBlocks) 67 = .ok (.iinc 3 1, 3) := by decide +kernel
theorem d_mk_sumBlocks_70 : decode (mz_c M_mk_sumBlocks) 70 = .ok (.goto (-47), 3) := by decide +kernel
theorem d_mk_sumBlocks_73 : decode (mz_c M_mk_sumBlocks) 73 = .ok (.iinc 2 1, 3) := by decide +kernel
theorem d_mk_sumBlocks_76 : decode (mz_c M_mk_sumBlocks) 76 = .ok (.goto (-74), 3) := by decide +kernel
theorem d_mk_sumBlocks_79 : decode (mz_c M_mk_sumBlocks) 79 = .ok (.return_, 1) := by decide +kernel
theorem d_mk_addBlock_0 : decode (mz_c M_mk_addBlock) 0 = .ok (.aload_n 0, 1) := by decide +kernel
theorem d_mk_addBlock_1 : decode (mz_c M_mk_addBlock) 1 = .ok (.getfield 9, 3) := by decide +kernel
theorem d_mk_addBlock_4 : decode (mz_c M_mk_addBlock) 4 = .ok (.getfield 73, 3) := by decide +kernel
theorem d_mk_addBlock_7 : decode (mz_c M_mk_addBlock) 7 = .ok (.iload_n 2, 1) := by decide +kernel
theorem d_mk_addBlock_8 : decode (mz_c M_mk_addBlock) 8 = .ok (.iaload, 1) := by decide +kernel
theorem d_mk_addBlock_9 : decode (mz_c M_mk_addBlock) 9 = .ok (.ifCond .ne 24, 3) := by decide +kernel
theorem d_mk_addBlock_12 : decode (mz_c M_mk_addBlock) 12 = .ok (.aload_n 0, 1) := by decide +kernel
theorem d_mk_addBlock_13 : decode (mz_c M_mk_addBlock) 13 = .ok (.getfield 35, 3) := by decide +kernel
theorem d_mk_addBlock_16 : decode (mz_c M_mk_addBlock) 16 = .ok (.iload_n 1, 1) := by decide +kernel
theorem d_mk_addBlock_17 : decode (mz_c M_mk_addBlock) 17 = .ok (.dup2, 1) := by decide +kernel
theorem d_mk_addBlock_18 : decode (mz_c M_mk_addBlock) 18 = .ok (.iaload, 1) := by decide +kernel
theorem d_mk_addBlock_19 : decode (mz_c M_mk_addBlock) 19 = .ok (.aload_n 0, 1) := by decide +kernel
theorem d_mk_addBlock_20 : decode (mz_c M_mk_addBlock) 20 = .ok (.getfield 9, 3) := by decide +kernel
theorem d_mk_addBlock_23 : decode (mz_c M_mk_addBlock) 23 = .ok (.getfield 76, 3) := by decide +kernel
theorem d_mk_addBlock_26 : decode (mz_c M_mk_addBlock) 26 = .ok (.iload_n 2, 1) := by decide +kernel
theorem d_mk_addBlock_27 : decode (mz_c M_mk_addBlock) 27 = .ok (.iaload, 1) := by decide +kernel
theorem d_mk_addBlock_28 : decode (mz_c M_mk_addBlock) 28 = .ok (.iadd, 1) := by decide +kernel
theorem d_mk_addBlock_29 : decode (mz_c M_mk_addBlock) 29 = .ok (.iastore, 1) := by decide +kernel
theorem d_mk_addBlock_30 : decode (mz_c M_mk_addBlock) 30 = .ok (.goto 21, 3) := by decide +kernel
theorem d_mk_addBlock_33 : decode (mz_c M_mk_addBlock) 33 = .ok (.aload_n 0, 1) := by decide +kernel
theorem d_mk_addBlock_34 : decode (mz_c M_mk_addBlock) 34 = .ok (.getfield 38, 3) := by decide +kernel
theorem d_mk_addBlock_37 : decode (mz_c M_mk_addBlock) 37 = .ok (.iload_n 1, 1) := by decide +kernel
theorem d_mk_addBlock_38 : decode (mz_c M_mk_addBlock) 38 = .ok (.dup2, 1) := by decide +kernel
theorem d_mk_addBlock_39 : decode (mz_c M_mk_addBlock) 39 = .ok (.iaload, 1) := by decide +kernel
theorem d_mk_addBlock_40 : decode (mz_c M_mk_addBlock) 40 = .ok (.aload_n 0, 1) := by decide +kernel
theorem d_mk_addBlock_41 : decode (mz_c M_mk_addBlock) 41 = .ok (.getfield 9, 3) := by decide +kernel
theorem d_mk_addBlock_44 : decode (mz_c M_mk_addBlock) 44 = .ok (.getfield 76, 3) := by decide +kernel
theorem d_mk_addBlock_47 : decode (mz_c M_mk_addBlock) 47 = .ok (.iload_n 2, 1) := by decide +kernel
theorem d_mk_addBlock_48 : decode (mz_c M_mk_addBlock) 48 = .ok (.iaload, 1) := by decide +kernel
theorem d_mk_addBlock_49 : decode (mz_c M_mk_addBlock) 49 = .ok (.iadd, 1) := by decide +kernel
theorem d_mk_addBlock_50 : decode (mz_c M_mk_addBlock) 50 = .ok (.iastore, 1) := by decide +kernel
theorem d_mk_addBlock_51 : decode (mz_c M_mk_addBlock) 51 = .ok (.return_, 1) := by decide +kernel
theorem d_mk_isTaken_0 : decode (mz_c M_mk_isTaken) 0 = .ok (.iload_n 0, 1) := by decide +kernel
theorem d_mk_isTaken_1 : decode (mz_c M_mk_isTaken) 1 = .ok (.iload_n 1, 1) := by decide +kernel
theorem d_mk_isTaken_2 : decode (mz_c M_mk_isTaken) 2 = .ok (.ishr, 1) := by decide +kernel
theorem d_mk_isTaken_3 : decode (mz_c M_mk_isTaken) 3 = .ok (.iconst 1, 1) := by decide +kernel
theorem d_mk_isTaken_4 : decode (mz_c M_mk_isTaken) 4 = .ok (.iand, 1) := by decide +kernel
theorem d_mk_isTaken_5 : decode (mz_c M_mk_isTaken) 5 = .ok (.iconst 1, 1) := by decide +kernel
theorem d_mk_isTaken_6 : decode (mz_c M_mk_isTaken) 6 = .ok (.if_icmp .ne 7, 3) := by decide +kernel
theorem d_mk_isTaken_9 : decode (mz_c M_mk_isTaken) 9 = .ok (.iconst 1, 1) := by decide +kernel
theorem d_mk_isTaken_10 : decode (mz_c M_mk_isTaken) 10 = .ok (.goto 4, 3) := by decide +kernel
theorem d_mk_isTaken_13 : decode (mz_c M_mk_isTaken) 13 = .ok (.iconst 0, 1) := by decide +kernel
theorem d_mk_isTaken_14 : decode (mz_c M_mk_isTaken) 14 = .ok (.ireturn, 1) := by decide +kernel
theorem d_mk_loses_0 : decode (mz_c M_mk_loses) 0 = .ok (.aload_n 0, 1) := by decide +kernel
theorem d_mk_loses_1 : decode (mz_c M_mk_loses) 1 = .ok (.getfield 9, 3) := by decide +kernel
theorem d_mk_loses_4 : decode (mz_c M_mk_loses) 4 = .ok (.getfield 79, 3) := by decide +kernel
theorem d_mk_loses_7 : decode (mz_c M_mk_loses) 7 = .ok (.iload_n 1, 1) := by decide +kernel
theorem d_mk_loses_8 : decode (mz_c M_mk_loses) 8 = .ok (.iaload, 1) := by decide +kernel
theorem d_mk_loses_9 : decode (mz_c M_mk_loses) 9 = .ok (.ineg, 1) := by decide +kernel
theorem d_mk_loses_10 : decode (mz_c M_mk_loses) 10 = .ok (.aload_n 0, 1) := by decide +kernel
theorem d_mk_loses_11 : decode (mz_c M_mk_loses) 11 = .ok (.getfield 9, 3) := by decide +kernel
theorem d_mk_loses_14 : decode (mz_c M_mk_loses) 14 = .ok (.iload_n 1, 1) := by decide +kernel
theorem d_mk_loses_15 : decode (mz_c M_mk_loses) 15 = .ok (.invokevirtual 153, 3) := by decide +kernel
theorem d_mk_loses_18 : decode (mz_c M_mk_loses) 18 = .ok (.imul, 1) := by decide +kernel
theorem d_mk_loses_19 : decode (mz_c M_mk_loses) 19 = .ok (.istore_n 2, 1) := by decide +kernel
theorem d_mk_loses_20 : decode (mz_c M_mk_loses) 20 = .ok (.iconst 0, 1) := by decide +kernel
theorem d_mk_loses_21 : decode (mz_c M_mk_loses) 21 = .ok (.istore_n 3, 1) := by decide +kernel
theorem d_mk_loses_22 : decode (mz_c M_mk_loses) 22 = .ok (.iload_n 3, 1) := by decide +kernel
theorem d_mk_loses_23 : decode (mz_c M_mk_loses) 23 = .ok (.iconst 3, 1) := by decide +kernel
theorem d_mk_loses_24 : decode (mz_c M_mk_loses) 24 = .ok (.if_icmp .ge 33, 3) := by decide +kernel
theorem d_mk_loses_27 : decode (mz_c M_mk_loses) 27 = .ok (.aload_n 0, 1) := by decide +kernel
theorem d_mk_loses_28 : decode (mz_c M_mk_loses) 28 = .ok (.getfield 9, 3) := by decide +kernel
theorem d_mk_loses_31 : decode (mz_c M_mk_loses) 31 = .ok (.iload_n 1, 1) := by decide +kernel
theorem d_mk_loses_32 : decode (mz_c M_mk_loses) 32 = .ok (.iload_n 3, 1) := by decide +kernel
theorem d_mk_loses_33 : decode (mz_c M_mk_loses) 33 = .ok (.invokevirtual 147, 3) := by decide +kernel
theorem d_mk_loses_36 : decode (mz_c M_mk_loses) 36 = .ok (.ifCond .eq 15, 3) := by decide +kernel
theorem d_mk_loses_39 : decode (mz_c M_mk_loses) 39 = .ok (.iload_n 2, 1) := by decide +kernel
theorem d_mk_loses_40 : decode (mz_c M_mk_loses) 40 = .ok (.aload_n 0, 1) := by decide +kernel
theorem d_mk_loses_41 : decode (mz_c M_mk_loses) 41 = .ok (.getfield 17, 3) := by decide +kernel
theorem d_mk_loses_44 : decode (mz_c M_mk_loses) 44 = .ok (.iload_n 3, 1) := by decide +kernel
theorem d_mk_loses_45 : decode (mz_c M_mk_loses) 45 = .ok (.aaload, 1) := by decide +kernel
theorem d_mk_loses_46 : decode (mz_c M_mk_loses) 46 = .ok (.getfield 109, 3) := by decide +kernel
theorem d_mk_loses_49 : decode (mz_c M_mk_loses) 49 = .ok (.iadd, 1) := by decide +kernel
theorem d_mk_loses_50 : decode (mz_c M_mk_loses) 50 = .ok (.istore_n 2, 1) := by decide +kernel
theorem d_mk_loses_51 : decode (mz_c M_mk_loses) 51 = .ok (.iinc 3 1, 3) := by decide +kernel
theorem d_mk_loses_54 : decode (mz_c M_mk_loses) 54 = .ok (.goto (-32), 3) := by decide +kernel
theorem d_mk_loses_57 : decode (mz_c M_mk_loses) 57 = .ok (.aload_n 0, 1) := by decide +kernel
theorem d_mk_loses_58 : decode (mz_c M_mk_loses) 58 = .ok (.getfield 9, 3) := by decide +kernel
theorem d_mk_loses_61 : decode (mz_c M_mk_loses) 61 = .ok (.getfield 73, 3) := by decide +kernel
theorem d_mk_loses_64 : decode (mz_c M_mk_loses) 64 = .ok (.iload_n 1, 1) := by decide +kernel
theorem d_mk_loses_65 : decode (mz_c M_mk_loses) 65 = .ok (.iaload, 1) := by decide +kernel
theorem d_mk_loses_66 : decode (mz_c M_mk_loses) 66 = .ok (.iconst 1, 1) := by decide +kernel
theorem d_mk_loses_67 : decode (mz_c M_mk_loses) 67 = .ok (.if_icmp .ne 15, 3) := by decide +kernel
theorem d_mk_loses_70 : decode (mz_c M_mk_loses) 70 = .ok (.iload_n 2, 1) := by decide +kernel
theorem d_mk_loses_71 : decode (mz_c M_mk_loses) 71 = .ok (.ifCond .ge 7, 3) := by decide +kernel
theorem d_mk_loses_74 : decode (mz_c M_mk_loses) 74 = .ok (.iconst 1, 1) := by decide +kernel
theorem d_mk_loses_75 : decode (mz_c M_mk_loses) 75 = .ok (.goto 16, 3) := by decide +kernel
theorem d_mk_loses_78 : decode (mz_c M_mk_loses) 78 = .ok (.iconst 0, 1) := by decide +kernel
theorem d_mk_loses_79 : decode (mz_c M_mk_loses) 79 = .ok (.goto 12, 3) := by decide +kernel
theorem d_mk_loses_82 : decode (mz_c M_mk_loses) 82 = .ok (.iload_n 2, 1) := by decide +kernel
theorem d_mk_loses_83 : decode (mz_c M_mk_loses) 83 = .ok (.ifCond .le 7, 3) := by decide +kernel
theorem d_mk_loses_86 : decode (mz_c M_mk_loses) 86 = .ok (.iconst 1, 1) := by decide +kernel
theorem d_mk_loses_87 : decode (mz_c M_mk_loses) 87 = .ok (.goto 4, 3) := by decide +kernel
theorem d_mk_loses_90 : decode (mz_c M_mk_loses) 90 = .ok (.iconst 0, 1) := by decide +kernel
theorem d_mk_loses_91 : decode (mz_c M_mk_loses) 91 = .ok (.ireturn, 1) := by decide +kernel
theorem d_mk_worthOfSet_0 : decode (mz_c M_mk_worthOfSet) 0 = .ok (.lconst 0, 1) := by decide +kernel
theorem d_mk_worthOfSet_1 : decode (mz_c M_mk_worthOfSet) 1 = .ok (.lstore_n 2, 1) := by decide +kernel
theorem d_mk_worthOfSet_2 : decode (mz_c M_mk_worthOfSet) 2 = .ok (.iconst 0, 1) := by decide +kernel
theorem d_mk_worthOfSet_3 : decode (mz_c M_mk_worthOfSet) 3 = .ok (.istore 4, 2) := by decide +kernel
theorem d_mk_worthOfSet_5 : decode (mz_c M_mk_worthOfSet) 5 = .ok (.iload 4, 2) := by decide +kernel
theorem d_mk_worthOfSet_7 : decode (mz_c M_mk_worthOfSet) 7 = .ok (.iconst 3, 1) := by decide +kernel
theorem d_mk_worthOfSet_8 : decode (mz_c M_mk_worthOfSet) 8 = .ok (.if_icmp .ge 46, 3) := by decide +kernel
theorem d_mk_worthOfSet_11 : decode (mz_c M_mk_worthOfSet) 11 = .ok (.aload_n 0, 1) := by decide +kernel
theorem d_mk_worthOfSet_12 : decode (mz_c M_mk_worthOfSet) 12 = .ok (.getfield 17, 3) := by decide +kernel
theorem d_mk_worthOfSet_15 : decode (mz_c M_mk_worthOfSet) 15 = .ok (.iload 4, 2) := by decide +kernel
theorem d_mk_worthOfSet_17 : decode (mz_c M_mk_worthOfSet) 17 = .ok (.aaload, 1) := by decide +kernel
theorem d_mk_worthOfSet_18 : decode (mz_c M_mk_worthOfSet) 18 = .ok (.aload_n 0, 1) := by decide +kernel
theorem d_mk_worthOfSet_19 : decode (mz_c M_mk_worthOfSet) 19 = .ok (.getfield 35, 3) := by decide +kernel
theorem d_mk_worthOfSet_22 : decode (mz_c M_mk_worthOfSet) 22 = .ok (.iload 4, 2) := by decide +kernel
theorem d_mk_worthOfSet_24 : decode (mz_c M_mk_worthOfSet) 24 = .ok (.iaload, 1) := by decide +kernel
theorem d_mk_worthOfSet_25 : decode (mz_c M_mk_worthOfSet) 25 = .ok (.aload_n 0, 1) := by decide +kernel
theorem d_mk_worthOfSet_26 : decode (mz_c M_mk_worthOfSet) 26 = .ok (.getfield 38, 3) := by decide +kernel
theorem d_mk_worthOfSet_29 : decode (mz_c M_mk_worthOfSet) 29 = .ok (.iload 4, 2) := by decide +kernel
theorem d_mk_worthOfSet_31 : decode (mz_c M_mk_worthOfSet) 31 = .ok (.iaload, 1) := by decide +kernel
theorem d_mk_worthOfSet_32 : decode (mz_c M_mk_worthOfSet) 32 = .ok (.invokevirtual 157, 3) := by decide +kernel
theorem d_mk_worthOfSet_35 : decode (mz_c M_mk_worthOfSet) 35 = .ok (.lload_n 2, 1) := by decide +kernel
theorem d_mk_worthOfSet_36 : decode (mz_c M_mk_worthOfSet) 36 = .ok (.aload_n 0, 1) := by decide +kernel
theorem d_mk_worthOfSet_37 : decode (mz_c M_mk_worthOfSet) 37 = .ok (.getfield 17, 3) := by decide +kernel
theorem d_mk_worthOfSet_40 : decode (mz_c M_mk_worthOfSet) 40 = .ok (.iload 4, 2) := by decide +kernel
theorem d_mk_worthOfSet_42 : decode (mz_c M_mk_worthOfSet) 42 = .ok (.aaload, 1) := by decide +kernel
theorem d_mk_worthOfSet_43 : decode (mz_c M_mk_worthOfSet) 43 = .ok (.getfield 160, 3) := by decide +kernel
theorem d_mk_worthOfSet_46 : decode (mz_c M_mk_worthOfSet) 46 = .ok (.ladd, 1) := by decide +kernel
theorem d_mk_worthOfSet_47 : decode (mz_c M_mk_worthOfSet) 47 = .ok (.lstore_n 2, 1) := by decide +kernel
theorem d_mk_worthOfSet_48 : decode (mz_c M_mk_worthOfSet) 48 = .ok (.iinc 4 1, 3) := by decide +kernel
theorem d_mk_worthOfSet_51 : decode (mz_c M_mk_worthOfSet) 51 = .ok (.goto (-46), 3) := by decide +kernel
theorem d_mk_worthOfSet_54 : decode (mz_c M_mk_worthOfSet) 54 = .ok (.iconst 0, 1) := by decide +kernel
theorem d_mk_worthOfSet_55 : decode (mz_c M_mk_worthOfSet) 55 = .ok (.istore 4, 2) := by decide +kernel
theorem d_mk_worthOfSet_57 : decode (mz_c M_mk_worthOfSet) 57 = .ok (.iload 4, 2) := by decide +kernel
theorem d_mk_worthOfSet_59 : decode (mz_c M_mk_worthOfSet) 59 = .ok (.aload_n 0, 1) := by decide +kernel
theorem d_mk_worthOfSet_60 : decode (mz_c M_mk_worthOfSet) 60 = .ok (.getfield 45, 3) := by decide +kernel
theorem d_mk_worthOfSet_63 : decode (mz_c M_mk_worthOfSet) 63 = .ok (.if_icmp .ge 35, 3) := by decide +kernel
theorem d_mk_worthOfSet_66 : decode (mz_c M_mk_worthOfSet) 66 = .ok (.iload_n 1, 1) := by decide +kernel
theorem d_mk_worthOfSet_67 : decode (mz_c M_mk_worthOfSet) 67 = .ok (.iload 4, 2) := by decide +kernel
theorem d_mk_worthOfSet_69 : decode (mz_c M_mk_worthOfSet) 69 = .ok (.invokestatic 133, 3) := by decide +kernel
theorem d_mk_worthOfSet_72 : decode (mz_c M_mk_worthOfSet) 72 = .ok (.ifCond .eq 20, 3) := by decide +kernel
theorem d_mk_worthOfSet_75 : decode (mz_c M_mk_worthOfSet) 75 = .ok (.lload_n 2, 1) := by decide +kernel
theorem d_mk_worthOfSet_76 : decode (mz_c M_mk_worthOfSet) 76 = .ok (.aload_n 0, 1) := by decide +kernel
theorem d_mk_worthOfSet_77 : decode (mz_c M_mk_worthOfSet) 77 = .ok (.getfield 9, 3) := by decide +kernel
theorem d_mk_worthOfSet_80 : decode (mz_c M_mk_worthOfSet) 80 = .ok (.aload_n 0, 1) := by decide +kernel
theorem d_mk_worthOfSet_81 : decode (mz_c M_mk_worthOfSet) 81 = .ok (.getfield 32, 3) := by decide +kernel
theorem d_mk_worthOfSet_84 : decode (mz_c M_mk_worthOfSet) 84 = .ok (.iload 4, 2) := by decide +kernel
theorem d_mk_worthOfSet_86 : decode (mz_c M_mk_worthOfSet) 86 = .ok (.iaload, 1) := by decide +kernel
theorem d_mk_worthOfSet_87 : decode (mz_c M_mk_worthOfSet) 87 = .ok (.invokevirtual 161, 3) := by decide +kernel
theorem d_mk_worthOfSet_90 : decode (mz_c M_mk_worthOfSet) 90 = .ok (.ladd, 1) := by decide +kernel
theorem d_mk_worthOfSet_91 : decode (mz_c M_mk_worthOfSet) 91 = .ok (.lstore_n 2, 1) := by decide +kernel
theorem d_mk_worthOfSet_92 : decode (mz_c M_mk_worthOfSet) 92 = .ok (.iinc 4 1, 3) := by decide +kernel
theorem d_mk_worthOfSet_95 : decode (mz_c M_mk_worthOfSet) 95 = .ok (.goto (-38), 3) := by decide +kernel
theorem d_mk_worthOfSet_98 : decode (mz_c M_mk_worthOfSet) 98 = .ok (.lload_n 2, 1) := by decide +kernel
theorem d_mk_worthOfSet_99 : decode (mz_c M_mk_worthOfSet) 99 = .ok (.lreturn, 1) := by decide +kernel
theorem d_mk_giveWhole_0 : decode (mz_c M_mk_giveWhole) 0 = .ok (.iconst 0, 1) := by decide +kernel
theorem d_mk_giveWhole_1 : decode (mz_c M_mk_giveWhole) 1 = .ok (.istore_n 3, 1) := by decide +kernel
theorem d_mk_giveWhole_2 : decode (mz_c M_mk_giveWhole) 2 = .ok (.iconst 0, 1) := by decide +kernel
theorem d_mk_giveWhole_3 : decode (mz_c M_mk_giveWhole) 3 = .ok (.istore 4, 2) := by decide +kernel
theorem d_mk_giveWhole_5 : decode (mz_c M_mk_giveWhole) 5 = .ok (.iload 4, 2) := by decide +kernel
theorem d_mk_giveWhole_7 : decode (mz_c M_mk_giveWhole) 7 = .ok (.aload_n 0, 1) := by decide +kernel
theorem d_mk_giveWhole_8 : decode (mz_c M_mk_giveWhole) 8 = .ok (.getfield 41, 3) := by decide +kernel
theorem d_mk_giveWhole_11 : decode (mz_c M_mk_giveWhole) 11 = .ok (.if_icmp .ge 104, 3) := by decide +kernel
theorem d_mk_giveWhole_14 : decode (mz_c M_mk_giveWhole) 14 = .ok (.aload_n 0, 1) := by decide +kernel
theorem d_mk_giveWhole_15 : decode (mz_c M_mk_giveWhole) 15 = .ok (.getfield 9, 3) := by decide +kernel
theorem d_mk_giveWhole_18 : decode (mz_c M_mk_giveWhole) 18 = .ok (.aload_n 0, 1) := by decide +kernel
theorem d_mk_giveWhole_19 : decode (mz_c M_mk_giveWhole) 19 = .ok (.getfield 22, 3) := by decide +kernel
theorem d_mk_giveWhole_22 : decode (mz_c M_mk_giveWhole) 22 = .ok (.iload 4, 2) := by decide +kernel
theorem d_mk_giveWhole_24 : decode (mz_c M_mk_giveWhole) 24 = .ok (.iaload, 1) := by decide +kernel
theorem d_mk_giveWhole_25 : decode (mz_c M_mk_giveWhole) 25 = .ok (.invokevirtual 66, 3) := by decide +kernel
theorem d_mk_giveWhole_28 : decode (mz_c M_mk_giveWhole) 28 = .ok (.ifCond .eq 32, 3) := by decide +kernel
theorem d_mk_giveWhole_31 : decode (mz_c M_mk_giveWhole) 31 = .ok (.iload_n 3, 1) := by decide +kernel
theorem d_mk_giveWhole_32 : decode (mz_c M_mk_giveWhole) 32 = .ok (.aload_n 0, 1) := by decide +kernel
theorem d_mk_giveWhole_33 : decode (mz_c M_mk_giveWhole) 33 = .ok (.getfield 45, 3) := by decide +kernel
theorem d_mk_giveWhole_36 : decode (mz_c M_mk_giveWhole) 36 = .ok (.if_icmp .ge 15, 3) := by decide +kernel
theorem d_mk_giveWhole_39 : decode (mz_c M_mk_giveWhole) 39 = .ok (.iload_n 2, 1) := by decide +kernel
theorem d_mk_giveWhole_40 : decode (mz_c M_mk_giveWhole) 40 = .ok (.iload_n 3, 1) := by decide +kernel
theorem d_mk_giveWhole_41 : decode (mz_c M_mk_giveWhole) 41 = .ok (.invokestatic 133, 3) := by decide +kernel
theorem d_mk_giveWhole_44 : decode (mz_c M_mk_giveWhole) 44 = .ok (.ifCond .eq 7, 3) := by decide +kernel
theorem d_mk_giveWhole_47 : decode (mz_c M_mk_giveWhole) 47 = .ok (.iconst 1, 1) := by decide +kernel
theorem d_mk_giveWhole_48 : decode (mz_c M_mk_giveWhole) 48 = .ok (.goto 4, 3) := by decide +kernel
theorem d_mk_giveWhole_51 : decode (mz_c M_mk_giveWhole) 51 = .ok (.iconst 0, 1) := by decide +kernel
theorem d_mk_giveWhole_52 : decode (mz_c M_mk_giveWhole) 52 = .ok (.istore 5, 2) := by decide +kernel
theorem d_mk_giveWhole_54 : decode (mz_c M_mk_giveWhole) 54 = .ok (.iinc 3 1, 3) := by decide +kernel
theorem d_mk_giveWhole_57 : decode (mz_c M_mk_giveWhole) 57 = .ok (.goto 16, 3) := by decide +kernel
theorem d_mk_giveWhole_60 : decode (mz_c M_mk_giveWhole) 60 = .ok (.aload_n 0, 1) := by decide +kernel
theorem d_mk_giveWhole_61 : decode (mz_c M_mk_giveWhole) 61 = .ok (.aload_n 0, 1) := by decide +kernel
theorem d_mk_giveWhole_62 : decode (mz_c M_mk_giveWhole) 62 = .ok (.getfield 22, 3) := by decide +kernel
theorem d_mk_giveWhole_65 : decode (mz_c M_mk_giveWhole) 65 = .ok (.iload 4, 2) := by decide +kernel
theorem d_mk_giveWhole_67 : decode (mz_c M_mk_giveWhole) 67 = .ok (.iaload, 1) := by decide +kernel
theorem d_mk_giveWhole_68 : decode (mz_c M_mk_giveWhole) 68 = .ok (.invokevirtual 164, 3) := by decide +kernel
theorem d_mk_giveWhole_71 : decode (mz_c M_mk_giveWhole) 71 = .ok (.istore 5, 2) := by decide +kernel
theorem d_mk_giveWhole_73 : decode (mz_c M_mk_giveWhole) 73 = .ok (.aload_n 1, 1) := by decide +kernel
theorem d_mk_giveWhole_74 : decode (mz_c M_mk_giveWhole) 74 = .ok (.getfield 167, 3) := by decide +kernel
theorem d_mk_giveWhole_77 : decode (mz_c M_mk_giveWhole) 77 = .ok (.aload_n 0, 1) := by decide +kernel
theorem d_mk_giveWhole_78 : decode (mz_c M_mk_giveWhole) 78 = .ok (.getfield 26, 3) := by decide +kernel
theorem d_mk_giveWhole_81 : decode (mz_c M_mk_giveWhole) 81 = .ok (.iload 4, 2) := by decide +kernel
theorem d_mk_giveWhole_83 : decode (mz_c M_mk_giveWhole) 83 = .ok (.iaload, 1) := by decide +kernel
theorem d_mk_giveWhole_84 : decode (mz_c M_mk_giveWhole) 84 = .ok (.iload 5, 2) := by decide +kernel
theorem d_mk_giveWhole_86 : decode (mz_c M_mk_giveWhole) 86 = .ok (.ifCond .eq 21, 3) := by decide +kernel
theorem d_mk_giveWhole_89 : decode (mz_c M_mk_giveWhole) 89 = .ok (.aload_n 0, 1) := by decide +kernel
theorem d_mk_giveWhole_90 : decode (mz_c M_mk_giveWhole) 90 = .ok (.getfield 9, 3) := by decide +kernel
theorem d_mk_giveWhole_93 : decode (mz_c M_mk_giveWhole) 93 = .ok (.getfield 76, 3) := by decide +kernel
theorem d_mk_giveWhole_96 : decode (mz_c M_mk_giveWhole) 96 = .ok (.aload_n 0, 1) := by decide +kernel
theorem d_mk_giveWhole_97 : decode (mz_c M_mk_giveWhole) 97 = .ok (.getfield 22, 3) := by decide +kernel
theorem d_mk_giveWhole_100 : decode (mz_c M_mk_giveWhole) 100 = .ok (.iload 4, 2) := by decide +kernel
theorem d_mk_giveWhole_102 : decode (mz_c M_mk_giveWhole) 102 = .ok (.iaload, 1) := by decide +kernel
theorem d_mk_giveWhole_103 : decode (mz_c M_mk_giveWhole) 103 = .ok (.iaload, 1) := by decide +kernel
theorem d_mk_giveWhole_104 : decode (mz_c M_mk_giveWhole) 104 = .ok (.goto 4, 3) := by decide +kernel
theorem d_mk_giveWhole_107 : decode (mz_c M_mk_giveWhole) 107 = .ok (.iconst 0, 1) := by decide +kernel
theorem d_mk_giveWhole_108 : decode (mz_c M_mk_giveWhole) 108 = .ok (.iastore, 1) := by decide +kernel
theorem d_mk_giveWhole_109 : decode (mz_c M_mk_giveWhole) 109 = .ok (.iinc 4 1, 3) := by decide +kernel
theorem d_mk_giveWhole_112 : decode (mz_c M_mk_giveWhole) 112 = .ok (.goto (-107), 3) := by decide +kernel
theorem d_mk_giveWhole_115 : decode (mz_c M_mk_giveWhole) 115 = .ok (.return_, 1) := by decide +kernel
theorem d_mk_isSure_0 : decode (mz_c M_mk_isSure) 0 = .ok (.aload_n 0, 1) := by decide +kernel
theorem d_mk_isSure_1 : decode (mz_c M_mk_isSure) 1 = .ok (.getfield 9, 3) := by decide +kernel
theorem d_mk_isSure_4 : decode (mz_c M_mk_isSure) 4 = .ok (.getfield 79, 3) := by decide +kernel
theorem d_mk_isSure_7 : decode (mz_c M_mk_isSure) 7 = .ok (.iload_n 1, 1) := by decide +kernel
theorem d_mk_isSure_8 : decode (mz_c M_mk_isSure) 8 = .ok (.iaload, 1) := by decide +kernel
theorem d_mk_isSure_9 : decode (mz_c M_mk_isSure) 9 = .ok (.aload_n 0, 1) := by decide +kernel
theorem d_mk_isSure_10 : decode (mz_c M_mk_isSure) 10 = .ok (.getfield 17, 3) := by decide +kernel
theorem d_mk_isSure_13 : decode (mz_c M_mk_isSure) 13 = .ok (.aload_n 0, 1) := by decide +kernel
theorem d_mk_isSure_14 : decode (mz_c M_mk_isSure) 14 = .ok (.getfield 9, 3) := by decide +kernel
theorem d_mk_isSure_17 : decode (mz_c M_mk_isSure) 17 = .ok (.getfield 70, 3) := by decide +kernel
theorem d_mk_isSure_20 : decode (mz_c M_mk_isSure) 20 = .ok (.iload_n 1, 1) := by decide +kernel
theorem d_mk_isSure_21 : decode (mz_c M_mk_isSure) 21 = .ok (.iaload, 1) := by decide +kernel
theorem d_mk_isSure_22 : decode (mz_c M_mk_isSure) 22 = .ok (.aaload, 1) := by decide +kernel
theorem d_mk_isSure_23 : decode (mz_c M_mk_isSure) 23 = .ok (.getfield 109, 3) := by decide +kernel
theorem d_mk_isSure_26 : decode (mz_c M_mk_isSure) 26 = .ok (.isub, 1) := by decide +kernel
theorem d_mk_isSure_27 : decode (mz_c M_mk_isSure) 27 = .ok (.istore_n 2, 1) := by decide +kernel
theorem d_mk_isSure_28 : decode (mz_c M_mk_isSure) 28 = .ok (.aload_n 0, 1) := by decide +kernel
theorem d_mk_isSure_29 : decode (mz_c M_mk_isSure) 29 = .ok (.getfield 9, 3) := by decide +kernel
theorem d_mk_isSure_32 : decode (mz_c M_mk_isSure) 32 = .ok (.getfield 73, 3) := by decide +kernel
theorem d_mk_isSure_35 : decode (mz_c M_mk_isSure) 35 = .ok (.iload_n 1, 1) := by decide +kernel
theorem d_mk_isSure_36 : decode (mz_c M_mk_isSure) 36 = .ok (.iaload, 1) := by decide +kernel
theorem d_mk_isSure_37 : decode (mz_c M_mk_isSure) 37 = .ok (.ifCond .ne 15, 3) := by decide +kernel
theorem d_mk_isSure_40 : decode (mz_c M_mk_isSure) 40 = .ok (.iload_n 2, 1) := by decide +kernel
theorem d_mk_isSure_41 : decode (mz_c M_mk_isSure) 41 = .ok (.ifCond .le 7, 3) := by decide +kernel
theorem d_mk_isSure_44 : decode (mz_c M_mk_isSure) 44 = .ok (.iconst 1, 1) := by decide +kernel
theorem d_mk_isSure_45 : decode (mz_c M_mk_isSure) 45 = .ok (.goto 16, 3) := by decide +kernel
theorem d_mk_isSure_48 : decode (mz_c M_mk_isSure) 48 = .ok (.iconst 0, 1) := by decide +kernel
theorem d_mk_isSure_49 : decode (mz_c M_mk_isSure) 49 = .ok (.goto 12, 3) := by decide +kernel
theorem d_mk_isSure_52 : decode (mz_c M_mk_isSure) 52 = .ok (.iload_n 2, 1) := by decide +kernel
theorem d_mk_isSure_53 : decode (mz_c M_mk_isSure) 53 = .ok (.ifCond .ge 7, 3) := by decide +kernel
theorem d_mk_isSure_56 : decode (mz_c M_mk_isSure) 56 = .ok (.iconst 1, 1) := by decide +kernel
theorem d_mk_isSure_57 : decode (mz_c M_mk_isSure) 57 = .ok (.goto 4, 3) := by decide +kernel
theorem d_mk_isSure_60 : decode (mz_c M_mk_isSure) 60 = .ok (.iconst 0, 1) := by decide +kernel
theorem d_mk_isSure_61 : decode (mz_c M_mk_isSure) 61 = .ok (.ireturn, 1) := by decide +kernel
theorem d_mk_share_0 : decode (mz_c M_mk_share) 0 = .ok (.aload_n 0, 1) := by decide +kernel
theorem d_mk_share_1 : decode (mz_c M_mk_share) 1 = .ok (.getfield 17, 3) := by decide +kernel
theorem d_mk_share_4 : decode (mz_c M_mk_share) 4 = .ok (.iload_n 2, 1) := by decide +kernel
theorem d_mk_share_5 : decode (mz_c M_mk_share) 5 = .ok (.aaload, 1) := by decide +kernel
theorem d_mk_share_6 : decode (mz_c M_mk_share) 6 = .ok (.iload_n 3, 1) := by decide +kernel
theorem d_mk_share_7 : decode (mz_c M_mk_share) 7 = .ok (.invokevirtual 170, 3) := by decide +kernel
theorem d_mk_share_10 : decode (mz_c M_mk_share) 10 = .ok (.istore 4, 2) := by decide +kernel
theorem d_mk_share_12 : decode (mz_c M_mk_share) 12 = .ok (.aload_n 0, 1) := by decide +kernel
theorem d_mk_share_13 : decode (mz_c M_mk_share) 13 = .ok (.getfield 17, 3) := by decide +kernel
theorem d_mk_share_16 : decode (mz_c M_mk_share) 16 = .ok (.iload_n 2, 1) := by decide +kernel
theorem d_mk_share_17 : decode (mz_c M_mk_share) 17 = .ok (.aaload, 1) := by decide +kernel
theorem d_mk_share_18 : decode (mz_c M_mk_share) 18 = .ok (.iload_n 3, 1) := by decide +kernel
theorem d_mk_share_19 : decode (mz_c M_mk_share) 19 = .ok (.invokevirtual 173, 3) := by decide +kernel
theorem d_mk_share_22 : decode (mz_c M_mk_share) 22 = .ok (.istore 5, 2) := by decide +kernel
theorem d_mk_share_24 : decode (mz_c M_mk_share) 24 = .ok (.iload 5, 2) := by decide +kernel
theorem d_mk_share_26 : decode (mz_c M_mk_share) 26 = .ok (.ifCond .gt 4, 3) := by decide +kernel
theorem d_mk_share_29 : decode (mz_c M_mk_share) 29 = .ok (.return_, 1) := by decide +kernel
theorem d_mk_share_30 : decode (mz_c M_mk_share) 30 = .ok (.iload 4, 2) := by decide +kernel
theorem d_mk_share_32 : decode (mz_c M_mk_share) 32 = .ok (.istore 6, 2) := by decide +kernel
theorem d_mk_share_34 : decode (mz_c M_mk_share) 34 = .ok (.iconst 0, 1) := by decide +kernel
theorem d_mk_share_35 : decode (mz_c M_mk_share) 35 = .ok (.istore 7, 2) := by decide +kernel
theorem d_mk_share_37 : decode (mz_c M_mk_share) 37 = .ok (.iload 7, 2) := by decide +kernel
theorem d_mk_share_39 : decode (mz_c M_mk_share) 39 = .ok (.aload_n 0, 1) := by decide +kernel
theorem d_mk_share_40 : decode (mz_c M_mk_share) 40 = .ok (.getfield 41, 3) := by decide +kernel
theorem d_mk_share_43 : decode (mz_c M_mk_share) 43 = .ok (.if_icmp .ge 92, 3) := by decide +kernel
theorem d_mk_share_46 : decode (mz_c M_mk_share) 46 = .ok (.aload_n 0, 1) := by decide +kernel
theorem d_mk_share_47 : decode (mz_c M_mk_share) 47 = .ok (.getfield 29, 3) := by decide +kernel
theorem d_mk_share_50 : decode (mz_c M_mk_share) 50 = .ok (.iload 7, 2) := by decide +kernel
theorem d_mk_share_52 : decode (mz_c M_mk_share) 52 = .ok (.iconst (-1), 1) := by decide +kernel
theorem d_mk_share_53 : decode (mz_c M_mk_share) 53 = .ok (.iastore, 1) := by decide +kernel
theorem d_mk_share_54 : decode (mz_c M_mk_share) 54 = .ok (.aload_n 0, 1) := by decide +kernel
theorem d_mk_share_55 : decode (mz_c M_mk_share) 55 = .ok (.aload_n 0, 1) := by decide +kernel
theorem d_mk_share_56 : decode (mz_c M_mk_share) 56 = .ok (.getfield 22, 3) := by decide +kernel
theorem d_mk_share_59 : decode (mz_c M_mk_share) 59 = .ok (.iload 7, 2) := by decide +kernel
theorem d_mk_share_61 : decode (mz_c M_mk_share) 61 = .ok (.iaload, 1) := by decide +kernel
theorem d_mk_share_62 : decode (mz_c M_mk_share) 62 = .ok (.iload_n 2, 1) := by decide +kernel
theorem d_mk_share_63 : decode (mz_c M_mk_share) 63 = .ok (.iload_n 3, 1) := by decide +kernel
theorem d_mk_share_64 : decode (mz_c M_mk_share) 64 = .ok (.invokevirtual 176, 3) := by decide +kernel
theorem d_mk_share_67 : decode (mz_c M_mk_share) 67 = .ok (.ifCond .eq 62, 3) := by decide +kernel
theorem d_mk_share_70 : decode (mz_c M_mk_share) 70 = .ok (.aload_n 0, 1) := by decide +kernel
theorem d_mk_share_71 : decode (mz_c M_mk_share) 71 = .ok (.getfield 9, 3) := by decide +kernel
theorem d_mk_share_74 : decode (mz_c M_mk_share) 74 = .ok (.getfield 76, 3) := by decide +kernel
theorem d_mk_share_77 : decode (mz_c M_mk_share) 77 = .ok (.aload_n 0, 1) := by decide +kernel
theorem d_mk_share_78 : decode (mz_c M_mk_share) 78 = .ok (.getfield 22, 3) := by decide +kernel
theorem d_mk_share_81 : decode (mz_c M_mk_share) 81 = .ok (.iload 7, 2) := by decide +kernel
theorem d_mk_share_83 : decode (mz_c M_mk_share) 83 = .ok (.iaload, 1) := by decide +kernel
theorem d_mk_share_84 : decode (mz_c M_mk_share) 84 = .ok (.iaload, 1) := by decide +kernel
theorem d_mk_share_85 : decode (mz_c M_mk_share) 85 = .ok (.iload 4, 2) := by decide +kernel
theorem d_mk_share_87 : decode (mz_c M_mk_share) 87 = .ok (.imul, 1) := by decide +kernel
theorem d_mk_share_88 : decode (mz_c M_mk_share) 88 = .ok (.istore 8, 2) := by decide +kernel
theorem d_mk_share_90 : decode (mz_c M_mk_share) 90 = .ok (.aload_n 1, 1) := by decide +kernel
theorem d_mk_share_91 : decode (mz_c M_mk_share) 91 = .ok (.getfield 167, 3) := by decide +kernel
theorem d_mk_share_94 : decode (mz_c M_mk_share) 94 = .ok (.aload_n 0, 1) := by decide +kernel
theorem d_mk_share_95 : decode (mz_c M_mk_share) 95 = .ok (.getfield 26, 3) := by decide +kernel
theorem d_mk_share_98 : decode (mz_c M_mk_share) 98 = .ok (.iload 7, 2) := by decide +kernel
theorem d_mk_share_100 : decode (mz_c M_mk_share) 100 = .ok (.iaload, 1) := by decide +kernel
theorem d_mk_share_101 : decode (mz_c M_mk_share) 101 = .ok (.iload 8, 2) := by decide +kernel
theorem d_mk_share_103 : decode (mz_c M_mk_share) 103 = .ok (.iload 5, 2) := by decide +kernel
theorem d_mk_share_105 : decode (mz_c M_mk_share) 105 = .ok (.idiv, 1) := by decide +kernel
theorem d_mk_share_106 : decode (mz_c M_mk_share) 106 = .ok (.iastore, 1) := by decide +kernel
theorem d_mk_share_107 : decode (mz_c M_mk_share) 107 = .ok (.aload_n 0, 1) := by decide +kernel
theorem d_mk_share_108 : decode (mz_c M_mk_share) 108 = .ok (.getfield 29, 3) := by decide +kernel
theorem d_mk_share_111 : decode (mz_c M_mk_share) 111 = .ok (.iload 7, 2) := by decide +kernel
theorem d_mk_share_113 : decode (mz_c M_mk_share) 113 = .ok (.iload 8, 2) := by decide +kernel
theorem d_mk_share_115 : decode (mz_c M_mk_share) 115 = .ok (.iload 5, 2) := by decide +kernel
theorem d_mk_share_117 : decode (mz_c M_mk_share) 117 = .ok (.irem, 1) := by decide +kernel
theorem d_mk_share_118 : decode (mz_c M_mk_share) 118 = .ok (.iastore, 1) := by decide +kernel
theorem d_mk_share_119 : decode (mz_c M_mk_share) 119 = .ok (.iload 6, 2) := by decide +kernel
theorem d_mk_share_121 : decode (mz_c M_mk_share) 121 = .ok (.iload 8, 2) := by decide +kernel
theorem d_mk_share_123 : decode (mz_c M_mk_share) 123 = .ok (.iload 5, 2) := by decide +kernel
theorem d_mk_share_125 : decode (mz_c M_mk_share) 125 = .ok (.idiv, 1) := by decide +kernel
theorem d_mk_share_126 : decode (mz_c M_mk_share) 126 = .ok (.isub, 1) := by decide +kernel
theorem d_mk_share_127 : decode (mz_c M_mk_share) 127 = .ok (.istore 6, 2) := by decide +kernel
theorem d_mk_share_129 : decode (mz_c M_mk_share) 129 = .ok (.iinc 7 1, 3) := by decide +kernel
theorem d_mk_share_132 : decode (mz_c M_mk_share) 132 = .ok (.goto (-95), 3) := by decide +kernel
theorem d_mk_share_135 : decode (mz_c M_mk_share) 135 = .ok (.iconst 0, 1) := by decide +kernel
theorem d_mk_share_136 : decode (mz_c M_mk_share) 136 = .ok (.istore 7, 2) := by decide +kernel
theorem d_mk_share_138 : decode (mz_c M_mk_share) 138 = .ok (.iload 7, 2) := by decide +kernel
theorem d_mk_share_140 : decode (mz_c M_mk_share) 140 = .ok (.iload 6, 2) := by decide +kernel
theorem d_mk_share_142 : decode (mz_c M_mk_share) 142 = .ok (.if_icmp .ge 48, 3) := by decide +kernel
theorem d_mk_share_145 : decode (mz_c M_mk_share) 145 = .ok (.iload 7, 2) := by decide +kernel
theorem d_mk_share_147 : decode (mz_c M_mk_share) 147 = .ok (.aload_n 0, 1) := by decide +kernel
theorem d_mk_share_148 : decode (mz_c M_mk_share) 148 = .ok (.getfield 41, 3) := by decide +kernel
theorem d_mk_share_151 : decode (mz_c M_mk_share) 151 = .ok (.if_icmp .ge 39, 3) := by decide +kernel
theorem d_mk_share_154 : decode (mz_c M_mk_share) 154 = .ok (.aload_n 0, 1) := by decide +kernel
theorem d_mk_share_155 : decode (mz_c M_mk_share) 155 = .ok (.invokevirtual 180, 3) := by decide +kernel
theorem d_mk_share_158 : decode (mz_c M_mk_share) 158 = .ok (.istore 8, 2) := by decide +kernel
theorem d_mk_share_160 : decode (mz_c M_mk_share) 160 = .ok (.aload_n 1, 1) := by decide +kernel
theorem d_mk_share_161 : decode (mz_c M_mk_share) 161 = .ok (.getfield 167, 3) := by decide +kernel
theorem d_mk_share_164 : decode (mz_c M_mk_share) 164 = .ok (.aload_n 0, 1) := by decide +kernel
theorem d_mk_share_165 : decode (mz_c M_mk_share) 165 = .ok (.getfield 26, 3) := by decide +kernel
theorem d_mk_share_168 : decode (mz_c M_mk_share) 168 = .ok (.iload 8, 2) := by decide +kernel
theorem d_mk_share_170 : decode (mz_c M_mk_share) 170 = .ok (.iaload, 1) := by decide +kernel
theorem d_mk_share_171 : decode (mz_c M_mk_share) 171 = .ok (.dup2, 1) := by decide +kernel
theorem d_mk_share_172 : decode (mz_c M_mk_share) 172 = .ok (.iaload, 1) := by decide +kernel
theorem d_mk_share_173 : decode (mz_c M_mk_share) 173 = .ok (.iconst 1, 1) := by decide +kernel
theorem d_mk_share_174 : decode (mz_c M_mk_share) 174 = .ok (.iadd, 1) := by decide +kernel
theorem d_mk_share_175 : decode (mz_c M_mk_share) 175 = .ok (.iastore, 1) := by decide +kernel
theorem d_mk_share_176 : decode (mz_c M_mk_share) 176 = .ok (.aload_n 0, 1) := by decide +kernel
theorem d_mk_share_177 : decode (mz_c M_mk_share) 177 = .ok (.getfield 29, 3) := by decide +kernel
theorem d_mk_share_180 : decode (mz_c M_mk_share) 180 = .ok (.iload 8, 2) := by decide +kernel
theorem d_mk_share_182 : decode (mz_c M_mk_share) 182 = .ok (.iconst (-1), 1) := by decide +kernel
theorem d_mk_share_183 : decode (mz_c M_mk_share) 183 = .ok (.iastore, 1) := by decide +kernel
theorem d_mk_share_184 : decode (mz_c M_mk_share) 184 = .ok (.iinc 7 1, 3) := by decide +kernel
theorem d_mk_share_187 : decode (mz_c M_mk_share) 187 = .ok (.goto (-49), 3) := by decide +kernel
theorem d_mk_share_190 : decode (mz_c M_mk_share) 190 = .ok (.return_, 1) := by decide +kernel
theorem d_mk_isSharing_0 : decode (mz_c M_mk_isSharing) 0 = .ok (.aload_n 0, 1) := by decide +kernel
theorem d_mk_isSharing_1 : decode (mz_c M_mk_isSharing) 1 = .ok (.getfield 9, 3) := by decide +kernel
theorem d_mk_isSharing_4 : decode (mz_c M_mk_isSharing) 4 = .ok (.iload_n 1, 1) := by decide +kernel
theorem d_mk_isSharing_5 : decode (mz_c M_mk_isSharing) 5 = .ok (.invokevirtual 66, 3) := by decide +kernel
theorem d_mk_isSharing_8 : decode (mz_c M_mk_isSharing) 8 = .ok (.ifCond .ne 54, 3) := by decide +kernel
theorem d_mk_isSharing_11 : decode (mz_c M_mk_isSharing) 11 = .ok (.aload_n 0, 1) := by decide +kernel
theorem d_mk_isSharing_12 : decode (mz_c M_mk_isSharing) 12 = .ok (.getfield 9, 3) := by decide +kernel
theorem d_mk_isSharing_15 : decode (mz_c M_mk_isSharing) 15 = .ok (.getfield 70, 3) := by decide +kernel
theorem d_mk_isSharing_18 : decode (mz_c M_mk_isSharing) 18 = .ok (.iload_n 1, 1) := by decide +kernel
theorem d_mk_isSharing_19 : decode (mz_c M_mk_isSharing) 19 = .ok (.iaload, 1) := by decide +kernel
theorem d_mk_isSharing_20 : decode (mz_c M_mk_isSharing) 20 = .ok (.iload_n 2, 1) := by decide +kernel
theorem d_mk_isSharing_21 : decode (mz_c M_mk_isSharing) 21 = .ok (.if_icmp .ne 41, 3) := by decide +kernel
theorem d_mk_isSharing_24 : decode (mz_c M_mk_isSharing) 24 = .ok (.aload_n 0, 1) := by decide +kernel
theorem d_mk_isSharing_25 : decode (mz_c M_mk_isSharing) 25 = .ok (.getfield 9, 3) := by decide +kernel
theorem d_mk_isSharing_28 : decode (mz_c M_mk_isSharing) 28 = .ok (.getfield 73, 3) := by decide +kernel
theorem d_mk_isSharing_31 : decode (mz_c M_mk_isSharing) 31 = .ok (.iload_n 1, 1) := by decide +kernel
theorem d_mk_isSharing_32 : decode (mz_c M_mk_isSharing) 32 = .ok (.iaload, 1) := by decide +kernel
theorem d_mk_isSharing_33 : decode (mz_c M_mk_isSharing) 33 = .ok (.iload_n 3, 1) := by decide +kernel
theorem d_mk_isSharing_34 : decode (mz_c M_mk_isSharing) 34 = .ok (.if_icmp .ne 28, 3) := by decide +kernel
theorem d_mk_isSharing_37 : decode (mz_c M_mk_isSharing) 37 = .ok (.aload_n 0, 1) := by decide +kernel
theorem d_mk_isSharing_38 : decode (mz_c M_mk_isSharing) 38 = .ok (.getfield 9, 3) := by decide +kernel
theorem d_mk_isSharing_41 : decode (mz_c M_mk_isSharing) 41 = .ok (.getfield 79, 3) := by decide +kernel
theorem d_mk_isSharing_44 : decode (mz_c M_mk_isSharing) 44 = .ok (.iload_n 1, 1) := by decide +kernel
theorem d_mk_isSharing_45 : decode (mz_c M_mk_isSharing) 45 = .ok (.iaload, 1) := by decide +kernel
theorem d_mk_isSharing_46 : decode (mz_c M_mk_isSharing) 46 = .ok (.aload_n 0, 1) := by decide +kernel
theorem d_mk_isSharing_47 : decode (mz_c M_mk_isSharing) 47 = .ok (.getfield 17, 3) := by decide +kernel
theorem d_mk_isSharing_50 : decode (mz_c M_mk_isSharing) 50 = .ok (.iload_n 2, 1) := by decide +kernel
theorem d_mk_isSharing_51 : decode (mz_c M_mk_isSharing) 51 = .ok (.aaload, 1) := by decide +kernel
theorem d_mk_isSharing_52 : decode (mz_c M_mk_isSharing) 52 = .ok (.getfield 109, 3) := by decide +kernel
theorem d_mk_isSharing_55 : decode (mz_c M_mk_isSharing) 55 = .ok (.if_icmp .ne 7, 3) := by decide +kernel
theorem d_mk_isSharing_58 : decode (mz_c M_mk_isSharing) 58 = .ok (.iconst 1, 1) := by decide +kernel
theorem d_mk_isSharing_59 : decode (mz_c M_mk_isSharing) 59 = .ok (.goto 4, 3) := by decide +kernel
theorem d_mk_isSharing_62 : decode (mz_c M_mk_isSharing) 62 = .ok (.iconst 0, 1) := by decide +kernel
theorem d_mk_isSharing_63 : decode (mz_c M_mk_isSharing) 63 = .ok (.ireturn, 1) := by decide +kernel
theorem d_mk_greatestRemainder_0 : decode (mz_c M_mk_greatestRemainder) 0 = .ok (.iconst 0, 1) := by decide +kernel
theorem d_mk_greatestRemainder_1 : decode (mz_c M_mk_greatestRemainder) 1 = .ok (.istore_n 1, 1) := by decide +kernel
theorem d_mk_greatestRemainder_2 : decode (mz_c M_mk_greatestRemainder) 2 = .ok (.iconst 1, 1) := by decide +kernel
theorem d_mk_greatestRemainder_3 : decode (mz_c M_mk_greatestRemainder) 3 = .ok (.istore_n 2, 1) := by decide +kernel
theorem d_mk_greatestRemainder_4 : decode (mz_c M_mk_greatestRemainder) 4 = .ok (.iload_n 2, 1) := by decide +kernel
theorem d_mk_greatestRemainder_5 : decode (mz_c M_mk_greatestRemainder) 5 = .ok (.aload_n 0, 1) := by decide +kernel
theorem d_mk_greatestRemainder_6 : decode (mz_c M_mk_greatestRemainder) 6 = .ok (.getfield 41, 3) := by decide +kernel
theorem d_mk_greatestRemainder_9 : decode (mz_c M_mk_greatestRemainder) 9 = .ok (.if_icmp .ge 26, 3) := by decide +kernel
theorem d_mk_greatestRemainder_12 : decode (mz_c M_mk_greatestRemainder) 12 = .ok (.aload_n 0, 1) := by decide +kernel
theorem d_mk_greatestRemainder_13 : decode (mz_c M_mk_greatestRemainder) 13 = .ok (.getfield 29, 3) := by decide +kernel
theorem d_mk_greatestRemainder_16 : decode (mz_c M_mk_greatestRemainder) 16 = .ok (.iload_n 2, 1) := by decide +kernel
theorem d_mk_greatestRemainder_17 : decode (mz_c M_mk_greatestRemainder) 17 = .ok (.iaload, 1) := by decide +kernel
theorem d_mk_greatestRemainder_18 : decode (mz_c M_mk_greatestRemainder) 18 = .ok (.aload_n 0, 1) := by decide +kernel
theorem d_mk_greatestRemainder_19 : decode (mz_c M_mk_greatestRemainder) 19 = .ok (.getfield 29, 3) := by decide +kernel
theorem d_mk_greatestRemainder_22 : decode (mz_c M_mk_greatestRemainder) 22 = .ok (.iload_n 1, 1) := by decide +kernel
theorem d_mk_greatestRemainder_23 : decode (mz_c M_mk_greatestRemainder) 23 = .ok (.iaload, 1) := by decide +kernel
theorem d_mk_greatestRemainder_24 : decode (mz_c M_mk_greatestRemainder) 24 = .ok (.if_icmp .le 5, 3) := by decide +kernel
theorem d_mk_greatestRemainder_27 : decode (mz_c M_mk_greatestRemainder) 27 = .ok (.iload_n 2, 1) := by decide +kernel
theorem d_mk_greatestRemainder_28 : decode (mz_c M_mk_greatestRemainder) 28 = .ok (.istore_n 1, 1) := by decide +kernel
theorem d_mk_greatestRemainder_29 : decode (mz_c M_mk_greatestRemainder) 29 = .ok (.iinc 2 1, 3) := by decide +kernel
theorem d_mk_greatestRemainder_32 : decode (mz_c M_mk_greatestRemainder) 32 = .ok (.goto (-28), 3) := by decide +kernel
theorem d_mk_greatestRemainder_35 : decode (mz_c M_mk_greatestRemainder) 35 = .ok (.iload_n 1, 1) := by decide +kernel
theorem d_mk_greatestRemainder_36 : decode (mz_c M_mk_greatestRemainder) 36 = .ok (.ireturn, 1) := by decide +kernel
theorem d_o_init_0 : decode (mz_c M_o_init) 0 = .ok (.aload_n 0, 1) := by decide +kernel
theorem d_o_init_1 : decode (mz_c M_o_init) 1 = .ok (.invokespecial 3, 3) := by decide +kernel
theorem d_o_init_4 : decode (mz_c M_o_init) 4 = .ok (.aload_n 0, 1) := by decide +kernel
theorem d_o_init_5 : decode (mz_c M_o_init) 5 = .ok (.iconst 3, 1) := by decide +kernel
theorem d_o_init_6 : decode (mz_c M_o_init) 6 = .ok (.newarray .int, 2) := by decide +kernel
theorem d_o_init_8 : decode (mz_c M_o_init) 8 = .ok (.putfield 9, 3) := by decide +kernel
theorem d_o_init_11 : decode (mz_c M_o_init) 11 = .ok (.aload_n 0, 1) := by decide +kernel
theorem d_o_init_12 : decode (mz_c M_o_init) 12 = .ok (.iconst 3, 1) := by decide +kernel
theorem d_o_init_13 : decode (mz_c M_o_init) 13 = .ok (.newarray .int, 2) := by decide +kernel
theorem d_o_init_15 : decode (mz_c M_o_init) 15 = .ok (.putfield 15, 3) := by decide +kernel
theorem d_o_init_18 : decode (mz_c M_o_init) 18 = .ok (.aload_n 0, 1) := by decide +kernel
theorem d_o_init_19 : decode (mz_c M_o_init) 19 = .ok (.bipush 60, 2) := by decide +kernel
theorem d_o_init_21 : decode (mz_c M_o_init) 21 = .ok (.newarray .int, 2) := by decide +kernel
theorem d_o_init_23 : decode (mz_c M_o_init) 23 = .ok (.putfield 18, 3) := by decide +kernel
theorem d_o_init_26 : decode (mz_c M_o_init) 26 = .ok (.return_, 1) := by decide +kernel
theorem d_m_init_0 : decode (mz_c M_m_init) 0 = .ok (.aload_n 0, 1) := by decide +kernel
theorem d_m_init_1 : decode (mz_c M_m_init) 1 = .ok (.invokespecial 1, 3) := by decide +kernel
theorem d_m_init_4 : decode (mz_c M_m_init) 4 = .ok (.aload_n 0, 1) := by decide +kernel
theorem d_m_init_5 : decode (mz_c M_m_init) 5 = .ok (.bipush 6, 2) := by decide +kernel
theorem d_m_init_7 : decode (mz_c M_m_init) 7 = .ok (.newarray .int, 2) := by decide +kernel
theorem d_m_init_9 : decode (mz_c M_m_init) 9 = .ok (.putfield 7, 3) := by decide +kernel
theorem d_m_init_12 : decode (mz_c M_m_init) 12 = .ok (.aload_n 0, 1) := by decide +kernel
theorem d_m_init_13 : decode (mz_c M_m_init) 13 = .ok (.bipush 24, 2) := by decide +kernel
theorem d_m_init_15 : decode (mz_c M_m_init) 15 = .ok (.newarray .int, 2) := by decide +kernel
theorem d_m_init_17 : decode (mz_c M_m_init) 17 = .ok (.putfield 13, 3) := by decide +kernel
theorem d_m_init_20 : decode (mz_c M_m_init) 20 = .ok (.aload_n 0, 1) := by decide +kernel
theorem d_m_init_21 : decode (mz_c M_m_init) 21 = .ok (.bipush 24, 2) := by decide +kernel
theorem d_m_init_23 : decode (mz_c M_m_init) 23 = .ok (.newarray .long, 2) := by decide +kernel
theorem d_m_init_25 : decode (mz_c M_m_init) 25 = .ok (.putfield 16, 3) := by decide +kernel
theorem d_m_init_28 : decode (mz_c M_m_init) 28 = .ok (.aload_n 0, 1) := by decide +kernel
theorem d_m_init_29 : decode (mz_c M_m_init) 29 = .ok (.sipush 240, 3) := by decide +kernel
theorem d_m_init_32 : decode (mz_c M_m_init) 32 = .ok (.newarray .boolean, 2) := by decide +kernel
theorem d_m_init_34 : decode (mz_c M_m_init) 34 = .ok (.putfield 20, 3) := by decide +kernel
theorem d_m_init_37 : decode (mz_c M_m_init) 37 = .ok (.aload_n 0, 1) := by decide +kernel
theorem d_m_init_38 : decode (mz_c M_m_init) 38 = .ok (.sipush 240, 3) := by decide +kernel
theorem d_m_init_41 : decode (mz_c M_m_init) 41 = .ok (.newarray .int, 2) := by decide +kernel
theorem d_m_init_43 : decode (mz_c M_m_init) 43 = .ok (.putfield 24, 3) := by decide +kernel
theorem d_m_init_46 : decode (mz_c M_m_init) 46 = .ok (.aload_n 0, 1) := by decide +kernel
theorem d_m_init_47 : decode (mz_c M_m_init) 47 = .ok (.sipush 240, 3) := by decide +kernel
theorem d_m_init_50 : decode (mz_c M_m_init) 50 = .ok (.newarray .int, 2) := by decide +kernel
theorem d_m_init_52 : decode (mz_c M_m_init) 52 = .ok (.putfield 27, 3) := by decide +kernel
theorem d_m_init_55 : decode (mz_c M_m_init) 55 = .ok (.aload_n 0, 1) := by decide +kernel
theorem d_m_init_56 : decode (mz_c M_m_init) 56 = .ok (.sipush 240, 3) := by decide +kernel
theorem d_m_init_59 : decode (mz_c M_m_init) 59 = .ok (.newarray .int, 2) := by decide +kernel
theorem d_m_init_61 : decode (mz_c M_m_init) 61 = .ok (.putfield 30, 3) := by decide +kernel
theorem d_m_init_64 : decode (mz_c M_m_init) 64 = .ok (.aload_n 0, 1) := by decide +kernel
theorem d_m_init_65 : decode (mz_c M_m_init) 65 = .ok (.sipush 240, 3) := by decide +kernel
theorem d_m_init_68 : decode (mz_c M_m_init) 68 = .ok (.newarray .int, 2) := by decide +kernel
theorem d_m_init_70 : decode (mz_c M_m_init) 70 = .ok (.putfield 33, 3) := by decide +kernel
theorem d_m_init_73 : decode (mz_c M_m_init) 73 = .ok (.aload_n 0, 1) := by decide +kernel
theorem d_m_init_74 : decode (mz_c M_m_init) 74 = .ok (.bipush 6, 2) := by decide +kernel
theorem d_m_init_76 : decode (mz_c M_m_init) 76 = .ok (.newarray .boolean, 2) := by decide +kernel
theorem d_m_init_78 : decode (mz_c M_m_init) 78 = .ok (.putfield 36, 3) := by decide +kernel
theorem d_m_init_81 : decode (mz_c M_m_init) 81 = .ok (.aload_n 0, 1) := by decide +kernel
theorem d_m_init_82 : decode (mz_c M_m_init) 82 = .ok (.bipush 6, 2) := by decide +kernel
theorem d_m_init_84 : decode (mz_c M_m_init) 84 = .ok (.newarray .boolean, 2) := by decide +kernel
theorem d_m_init_86 : decode (mz_c M_m_init) 86 = .ok (.putfield 39, 3) := by decide +kernel
theorem d_m_init_89 : decode (mz_c M_m_init) 89 = .ok (.aload_n 0, 1) := by decide +kernel
theorem d_m_init_90 : decode (mz_c M_m_init) 90 = .ok (.iconst (-1), 1) := by decide +kernel
theorem d_m_init_91 : decode (mz_c M_m_init) 91 = .ok (.putfield 42, 3) := by decide +kernel
theorem d_m_init_94 : decode (mz_c M_m_init) 94 = .ok (.aload_n 0, 1) := by decide +kernel
theorem d_m_init_95 : decode (mz_c M_m_init) 95 = .ok (.bipush 24, 2) := by decide +kernel
theorem d_m_init_97 : decode (mz_c M_m_init) 97 = .ok (.newarray .int, 2) := by decide +kernel
theorem d_m_init_99 : decode (mz_c M_m_init) 99 = .ok (.putfield 46, 3) := by decide +kernel
theorem d_m_init_102 : decode (mz_c M_m_init) 102 = .ok (.aload_n 0, 1) := by decide +kernel
theorem d_m_init_103 : decode (mz_c M_m_init) 103 = .ok (.bipush 96, 2) := by decide +kernel
theorem d_m_init_105 : decode (mz_c M_m_init) 105 = .ok (.newarray .int, 2) := by decide +kernel
theorem d_m_init_107 : decode (mz_c M_m_init) 107 = .ok (.putfield 49, 3) := by decide +kernel
theorem d_m_init_110 : decode (mz_c M_m_init) 110 = .ok (.aload_n 0, 1) := by decide +kernel
theorem d_m_init_111 : decode (mz_c M_m_init) 111 = .ok (.bipush 24, 2) := by decide +kernel
theorem d_m_init_113 : decode (mz_c M_m_init) 113 = .ok (.newarray .int, 2) := by decide +kernel
theorem d_m_init_115 : decode (mz_c M_m_init) 115 = .ok (.putfield 52, 3) := by decide +kernel
theorem d_m_init_118 : decode (mz_c M_m_init) 118 = .ok (.aload_n 0, 1) := by decide +kernel
theorem d_m_init_119 : decode (mz_c M_m_init) 119 = .ok (.bipush 18, 2) := by decide +kernel
theorem d_m_init_121 : decode (mz_c M_m_init) 121 = .ok (.newarray .int, 2) := by decide +kernel
theorem d_m_init_123 : decode (mz_c M_m_init) 123 = .ok (.putfield 55, 3) := by decide +kernel
theorem d_m_init_126 : decode (mz_c M_m_init) 126 = .ok (.aload_n 0, 1) := by decide +kernel
theorem d_m_init_127 : decode (mz_c M_m_init) 127 = .ok (.iconst 4, 1) := by decide +kernel
theorem d_m_init_128 : decode (mz_c M_m_init) 128 = .ok (.newarray .boolean, 2) := by decide +kernel
theorem d_m_init_130 : decode (mz_c M_m_init) 130 = .ok (.putfield 58, 3) := by decide +kernel
theorem d_m_init_133 : decode (mz_c M_m_init) 133 = .ok (.aload_n 0, 1) := by decide +kernel
theorem d_m_init_134 : decode (mz_c M_m_init) 134 = .ok (.bipush 12, 2) := by decide +kernel
theorem d_m_init_136 : decode (mz_c M_m_init) 136 = .ok (.newarray .int, 2) := by decide +kernel
theorem d_m_init_138 : decode (mz_c M_m_init) 138 = .ok (.putfield 61, 3) := by decide +kernel
theorem d_m_init_141 : decode (mz_c M_m_init) 141 = .ok (.aload_n 0, 1) := by decide +kernel
theorem d_m_init_142 : decode (mz_c M_m_init) 142 = .ok (.bipush 12, 2) := by decide +kernel
theorem d_m_init_144 : decode (mz_c M_m_init) 144 = .ok (.newarray .int, 2) := by decide +kernel
theorem d_m_init_146 : decode (mz_c M_m_init) 146 = .ok (.putfield 64, 3) := by decide +kernel
theorem d_m_init_149 : decode (mz_c M_m_init) 149 = .ok (.aload_n 0, 1) := by decide +kernel
theorem d_m_init_150 : decode (mz_c M_m_init) 150 = .ok (.sipush 240, 3) := by decide +kernel
theorem d_m_init_153 : decode (mz_c M_m_init) 153 = .ok (.newarray .int, 2) := by decide +kernel
theorem d_m_init_155 : decode (mz_c M_m_init) 155 = .ok (.putfield 67, 3) := by decide +kernel
theorem d_m_init_158 : decode (mz_c M_m_init) 158 = .ok (.aload_n 0, 1) := by decide +kernel
theorem d_m_init_159 : decode (mz_c M_m_init) 159 = .ok (.iconst 4, 1) := by decide +kernel
theorem d_m_init_160 : decode (mz_c M_m_init) 160 = .ok (.newarray .long, 2) := by decide +kernel
theorem d_m_init_162 : decode (mz_c M_m_init) 162 = .ok (.putfield 70, 3) := by decide +kernel
theorem d_m_init_165 : decode (mz_c M_m_init) 165 = .ok (.aload_n 0, 1) := by decide +kernel
theorem d_m_init_166 : decode (mz_c M_m_init) 166 = .ok (.bipush 60, 2) := by decide +kernel
theorem d_m_init_168 : decode (mz_c M_m_init) 168 = .ok (.newarray .int, 2) := by decide +kernel
theorem d_m_init_170 : decode (mz_c M_m_init) 170 = .ok (.putfield 73, 3) := by decide +kernel
theorem d_m_init_173 : decode (mz_c M_m_init) 173 = .ok (.aload_n 0, 1) := by decide +kernel
theorem d_m_init_174 : decode (mz_c M_m_init) 174 = .ok (.bipush 60, 2) := by decide +kernel
theorem d_m_init_176 : decode (mz_c M_m_init) 176 = .ok (.newarray .int, 2) := by decide +kernel
theorem d_m_init_178 : decode (mz_c M_m_init) 178 = .ok (.putfield 76, 3) := by decide +kernel
theorem d_m_init_181 : decode (mz_c M_m_init) 181 = .ok (.aload_n 0, 1) := by decide +kernel
theorem d_m_init_182 : decode (mz_c M_m_init) 182 = .ok (.bipush 8, 2) := by decide +kernel
theorem d_m_init_184 : decode (mz_c M_m_init) 184 = .ok (.newarray .int, 2) := by decide +kernel
theorem d_m_init_186 : decode (mz_c M_m_init) 186 = .ok (.putfield 79, 3) := by decide +kernel
theorem d_m_init_189 : decode (mz_c M_m_init) 189 = .ok (.aload_n 0, 1) := by decide +kernel
theorem d_m_init_190 : decode (mz_c M_m_init) 190 = .ok (.bipush 8, 2) := by decide +kernel
theorem d_m_init_192 : decode (mz_c M_m_init) 192 = .ok (.newarray .int, 2) := by decide +kernel
theorem d_m_init_194 : decode (mz_c M_m_init) 194 = .ok (.putfield 82, 3) := by decide +kernel
theorem d_m_init_197 : decode (mz_c M_m_init) 197 = .ok (.aload_n 0, 1) := by decide +kernel
theorem d_m_init_198 : decode (mz_c M_m_init) 198 = .ok (.iconst 3, 1) := by decide +kernel
theorem d_m_init_199 : decode (mz_c M_m_init) 199 = .ok (.newarray .int, 2) := by decide +kernel
theorem d_m_init_201 : decode (mz_c M_m_init) 201 = .ok (.putfield 85, 3) := by decide +kernel
theorem d_m_init_204 : decode (mz_c M_m_init) 204 = .ok (.aload_n 0, 1) := by decide +kernel
theorem d_m_init_205 : decode (mz_c M_m_init) 205 = .ok (.iconst 3, 1) := by decide +kernel
theorem d_m_init_206 : decode (mz_c M_m_init) 206 = .ok (.newarray .int, 2) := by decide +kernel
theorem d_m_init_208 : decode (mz_c M_m_init) 208 = .ok (.putfield 88, 3) := by decide +kernel
theorem d_m_init_211 : decode (mz_c M_m_init) 211 = .ok (.aload_n 0, 1) := by decide +kernel
theorem d_m_init_212 : decode (mz_c M_m_init) 212 = .ok (.bipush 60, 2) := by decide +kernel
theorem d_m_init_214 : decode (mz_c M_m_init) 214 = .ok (.newarray .int, 2) := by decide +kernel
theorem d_m_init_216 : decode (mz_c M_m_init) 216 = .ok (.putfield 91, 3) := by decide +kernel
theorem d_m_init_219 : decode (mz_c M_m_init) 219 = .ok (.aload_n 0, 1) := by decide +kernel
theorem d_m_init_220 : decode (mz_c M_m_init) 220 = .ok (.bipush 60, 2) := by decide +kernel
theorem d_m_init_222 : decode (mz_c M_m_init) 222 = .ok (.newarray .long, 2) := by decide +kernel
theorem d_m_init_224 : decode (mz_c M_m_init) 224 = .ok (.putfield 94, 3) := by decide +kernel
theorem d_m_init_227 : decode (mz_c M_m_init) 227 = .ok (.aload_n 0, 1) := by decide +kernel
theorem d_m_init_228 : decode (mz_c M_m_init) 228 = .ok (.iload_n 1, 1) := by decide +kernel
theorem d_m_init_229 : decode (mz_c M_m_init) 229 = .ok (.iconst 1, 1) := by decide +kernel
theorem d_m_init_230 : decode (mz_c M_m_init) 230 = .ok (.if_icmp .lt 9, 3) := by decide +kernel
theorem d_m_init_233 : decode (mz_c M_m_init) 233 = .ok (.iload_n 1, 1) := by decide +kernel
theorem d_m_init_234 : decode (mz_c M_m_init) 234 = .ok (.bipush 6, 2) := by decide +kernel
theorem d_m_init_236 : decode (mz_c M_m_init) 236 = .ok (.if_icmp .le 7, 3) := by decide +kernel
theorem d_m_init_239 : decode (mz_c M_m_init) 239 = .ok (.iconst 1, 1) := by decide +kernel
theorem d_m_init_240 : decode (mz_c M_m_init) 240 = .ok (.goto 4, 3) := by decide +kernel
theorem d_m_init_243 : decode (mz_c M_m_init) 243 = .ok (.iload_n 1, 1) := by decide +kernel
theorem d_m_init_244 : decode (mz_c M_m_init) 244 = .ok (.putfield 97, 3) := by decide +kernel
theorem d_m_init_247 : decode (mz_c M_m_init) 247 = .ok (.aload_n 0, 1) := by decide +kernel
theorem d_m_init_248 : decode (mz_c M_m_init) 248 = .ok (.invokevirtual 100, 3) := by decide +kernel
theorem d_m_init_251 : decode (mz_c M_m_init) 251 = .ok (.return_, 1) := by decide +kernel
theorem d_m_thrown_0 : decode (mz_c M_m_thrown) 0 = .ok (.aload_n 0, 1) := by decide +kernel
theorem d_m_thrown_1 : decode (mz_c M_m_thrown) 1 = .ok (.getfield 103, 3) := by decide +kernel
theorem d_m_thrown_4 : decode (mz_c M_m_thrown) 4 = .ok (.ireturn, 1) := by decide +kernel
theorem d_m_throwing_0 : decode (mz_c M_m_throwing) 0 = .ok (.aload_n 0, 1) := by decide +kernel
theorem d_m_throwing_1 : decode (mz_c M_m_throwing) 1 = .ok (.iload_n 1, 1) := by decide +kernel
theorem d_m_throwing_2 : decode (mz_c M_m_throwing) 2 = .ok (.ifCond .eq 7, 3) := by decide +kernel
theorem d_m_throwing_5 : decode (mz_c M_m_throwing) 5 = .ok (.iconst 1, 1) := by decide +kernel
theorem d_m_throwing_6 : decode (mz_c M_m_throwing) 6 = .ok (.goto 12, 3) := by decide +kernel
theorem d_m_throwing_9 : decode (mz_c M_m_throwing) 9 = .ok (.iload_n 2, 1) := by decide +kernel
theorem d_m_throwing_10 : decode (mz_c M_m_throwing) 10 = .ok (.ifCond .eq 7, 3) := by decide +kernel
theorem d_m_throwing_13 : decode (mz_c M_m_throwing) 13 = .ok (.iconst 2, 1) := by decide +kernel
theorem d_m_throwing_14 : decode (mz_c M_m_throwing) 14 = .ok (.goto 4, 3) := by decide +kernel
theorem d_m_throwing_17 : decode (mz_c M_m_throwing) 17 = .ok (.iconst 0, 1) := by decide +kernel
theorem d_m_throwing_18 : decode (mz_c M_m_throwing) 18 = .ok (.putfield 103, 3) := by decide +kernel
theorem d_m_throwing_21 : decode (mz_c M_m_throwing) 21 = .ok (.aload_n 0, 1) := by decide +kernel
theorem d_m_throwing_22 : decode (mz_c M_m_throwing) 22 = .ok (.getfield 103, 3) := by decide +kernel
theorem d_m_throwing_25 : decode (mz_c M_m_throwing) 25 = .ok (.ifCond .le 7, 3) := by decide +kernel
theorem d_m_throwing_28 : decode (mz_c M_m_throwing) 28 = .ok (.iconst 1, 1) := by decide +kernel
theorem d_m_throwing_29 : decode (mz_c M_m_throwing) 29 = .ok (.goto 4, 3) := by decide +kernel
theorem d_m_throwing_32 : decode (mz_c M_m_throwing) 32 = .ok (.iconst 0, 1) := by decide +kernel
theorem d_m_throwing_33 : decode (mz_c M_m_throwing) 33 = .ok (.ireturn, 1) := by decide +kernel
theorem d_m_in_0 : decode (mz_c M_m_in) 0 = .ok (.lload_n 0, 1) := by decide +kernel
theorem d_m_in_1 : decode (mz_c M_m_in) 1 = .ok (.lload_n 2, 1) := by decide +kernel
theorem d_m_in_2 : decode (mz_c M_m_in) 2 = .ok (.lcmp, 1) := by decide +kernel
theorem d_m_in_3 : decode (mz_c M_m_in) 3 = .ok (.ifCond .lt 14, 3) := by decide +kernel
theorem d_m_in_6 : decode (mz_c M_m_in) 6 = .ok (.lload_n 0, 1) := by decide +kernel
theorem d_m_in_7 : decode (mz_c M_m_in) 7 = .ok (.lload 4, 2) := by decide +kernel
theorem d_m_in_9 : decode (mz_c M_m_in) 9 = .ok (.lcmp, 1) := by decide +kernel
theorem d_m_in_10 : decode (mz_c M_m_in) 10 = .ok (.ifCond .gt 7, 3) := by decide +kernel
theorem d_m_in_13 : decode (mz_c M_m_in) 13 = .ok (.iconst 1, 1) := by decide +kernel
theorem d_m_in_14 : decode (mz_c M_m_in) 14 = .ok (.goto 4, 3) := by decide +kernel
theorem d_m_in_17 : decode (mz_c M_m_in) 17 = .ok (.iconst 0, 1) := by decide +kernel
theorem d_m_in_18 : decode (mz_c M_m_in) 18 = .ok (.ireturn, 1) := by decide +kernel
theorem d_m_isMember_0 : decode (mz_c M_m_isMember) 0 = .ok (.iload_n 1, 1) := by decide +kernel
theorem d_m_isMember_1 : decode (mz_c M_m_isMember) 1 = .ok (.i2l, 1) := by decide +kernel
theorem d_m_isMember_2 : decode (mz_c M_m_isMember) 2 = .ok (.lconst 0, 1) := by decide +kernel
theorem d_m_isMember_3 : decode (mz_c M_m_isMember) 3 = .ok (.aload_n 0, 1) := by decide +kernel
theorem d_m_isMember_4 : decode (mz_c M_m_isMember) 4 = .ok (.getfield 97, 3) := by decide +kernel
theorem d_m_isMember_7 : decode (mz_c M_m_isMember) 7 = .ok (.iconst 1, 1) := by decide +kernel
theorem d_m_isMember_8 : decode (mz_c M_m_isMember) 8 = .ok (.isub, 1) := by decide +kernel
theorem d_m_isMember_9 : decode (mz_c M_m_isMember) 9 = .ok (.i2l, 1) := by decide +kernel
theorem d_m_isMember_10 : decode (mz_c M_m_isMember) 10 = .ok (.invokestatic 106, 3) := by decide +kernel
theorem d_m_isMember_13 : decode (mz_c M_m_isMember) 13 = .ok (.ireturn, 1) := by decide +kernel
theorem d_m_forget_0 : decode (mz_c M_m_forget) 0 = .ok (.iconst 0, 1) := by decide +kernel
theorem d_m_forget_1 : decode (mz_c M_m_forget) 1 = .ok (.istore_n 1, 1) := by decide +kernel
theorem d_m_forget_2 : decode (mz_c M_m_forget) 2 = .ok (.iload_n 1, 1) := by decide +kernel
theorem d_m_forget_3 : decode (mz_c M_m_forget) 3 = .ok (.bipush 24, 2) := by decide +kernel
theorem d_m_forget_5 : decode (mz_c M_m_forget) 5 = .ok (.if_icmp .ge 31, 3) := by decide +kernel
theorem d_m_forget_8 : decode (mz_c M_m_forget) 8 = .ok (.aload_n 0, 1) := by decide +kernel
theorem d_m_forget_9 : decode (mz_c M_m_forget) 9 = .ok (.getfield 13, 3) := by decide +kernel
theorem d_m_forget_12 : decode (mz_c M_m_forget) 12 = .ok (.iload_n 1, 1) := by decide +kernel
theorem d_m_forget_13 : decode (mz_c M_m_forget) 13 = .ok (.iconst 0, 1) := by decide +kernel
theorem d_m_forget_14 : decode (mz_c M_m_forget) 14 = .ok (.iastore, 1) := by decide +kernel
theorem d_m_forget_15 : decode (mz_c M_m_forget) 15 = .ok (.aload_n 0, 1) := by decide +kernel
theorem d_m_forget_16 : decode (mz_c M_m_forget) 16 = .ok (.getfield 16, 3) := by decide +kernel
theorem d_m_forget_19 : decode (mz_c M_m_forget) 19 = .ok (.iload_n 1, 1) := by decide +kernel
theorem d_m_forget_20 : decode (mz_c M_m_forget) 20 = .ok (.lconst 0, 1) := by decide +kernel
theorem d_m_forget_21 : decode (mz_c M_m_forget) 21 = .ok (.lastore, 1) := by decide +kernel
theorem d_m_forget_22 : decode (mz_c M_m_forget) 22 = .ok (.aload_n 0, 1) := by decide +kernel
theorem d_m_forget_23 : decode (mz_c M_m_forget) 23 = .ok (.getfield 46, 3) := by decide +kernel
theorem d_m_forget_26 : decode (mz_c M_m_forget) 26 = .ok (.iload_n 1, 1) := by decide +kernel
theorem d_m_forget_27 : decode (mz_c M_m_forget) 27 = .ok (.bipush (-2), 2) := by decide +kernel
theorem d_m_forget_29 : decode (mz_c M_m_forget) 29 = .ok (.iastore, 1) := by decide +kernel
theorem d_m_forget_30 : decode (mz_c M_m_forget) 30 = .ok (.iinc 1 1, 3) := by decide +kernel
theorem d_m_forget_33 : decode (mz_c M_m_forget) 33 = .ok (.goto (-31), 3) := by decide +kernel
theorem d_m_forget_36 : decode (mz_c M_m_forget) 36 = .ok (.iconst 0, 1) := by decide +kernel
theorem d_m_forget_37 : decode (mz_c M_m_forget) 37 = .ok (.istore_n 1, 1) := by decide +kernel
theorem d_m_forget_38 : decode (mz_c M_m_forget) 38 = .ok (.iload_n 1, 1) := by decide +kernel
theorem d_m_forget_39 : decode (mz_c M_m_forget) 39 = .ok (.bipush 96, 2) := by decide +kernel
theorem d_m_forget_41 : decode (mz_c M_m_forget) 41 = .ok (.if_icmp .ge 17, 3) := by decide +kernel
theorem d_m_forget_44 : decode (mz_c M_m_forget) 44 = .ok (.aload_n 0, 1) := by decide +kernel
theorem d_m_forget_45 : decode (mz_c M_m_forget) 45 = .ok (.getfield 49, 3) := by decide +kernel
theorem d_m_forget_48 : decode (mz_c M_m_forget) 48 = .ok (.iload_n 1, 1) := by decide +kernel
theorem d_m_forget_49 : decode (mz_c M_m_forget) 49 = .ok (.bipush (-2), 2) := by decide +kernel
theorem d_m_forget_51 : decode (mz_c M_m_forget) 51 = .ok (.iastore, 1) := by decide +kernel
theorem d_m_forget_52 : decode (mz_c M_m_forget) 52 = .ok (.iinc 1 1, 3) := by decide +kernel
theorem d_m_forget_55 : decode (mz_c M_m_forget) 55 = .ok (.goto (-17), 3) := by decide +kernel
theorem d_m_forget_58 : decode (mz_c M_m_forget) 58 = .ok (.iconst 0, 1) := by decide +kernel
theorem d_m_forget_59 : decode (mz_c M_m_forget) 59 = .ok (.istore_n 1, 1) := by decide +kernel
theorem d_m_forget_60 : decode (mz_c M_m_forget) 60 = .ok (.iload_n 1, 1) := by decide +kernel
theorem d_m_forget_61 : decode (mz_c M_m_forget) 61 = .ok (.bipush 6, 2) := by decide +kernel
theorem d_m_forget_63 : decode (mz_c M_m_forget) 63 = .ok (.if_icmp .ge 23, 3) := by decide +kernel
theorem d_m_forget_66 : decode (mz_c M_m_forget) 66 = .ok (.aload_n 0, 1) := by decide +kernel
theorem d_m_forget_67 : decode (mz_c M_m_forget) 67 = .ok (.getfield 36, 3) := by decide +kernel
theorem d_m_forget_70 : decode (mz_c M_m_forget) 70 = .ok (.iload_n 1, 1) := by decide +kernel
theorem d_m_forget_71 : decode (mz_c M_m_forget) 71 = .ok (.iconst 0, 1) := by decide +kernel
theorem d_m_forget_72 : decode (mz_c M_m_forget) 72 = .ok (.bastore, 1) := by decide +kernel
theorem d_m_forget_73 : decode (mz_c M_m_forget) 73 = .ok (.aload_n 0, 1) := by decide +kernel
theorem d_m_forget_74 : decode (mz_c M_m_forget) 74 = .ok (.getfield 39, 3) := by decide +kernel
theorem d_m_forget_77 : decode (mz_c M_m_forget) 77 = .ok (.iload_n 1, 1) := by decide +kernel
theorem d_m_forget_78 : decode (mz_c M_m_forget) 78 = .ok (.iconst 0, 1) := by decide +kernel
theorem d_m_forget_79 : decode (mz_c M_m_forget) 79 = .ok (.bastore, 1) := by decide +kernel
theorem d_m_forget_80 : decode (mz_c M_m_forget) 80 = .ok (.iinc 1 1, 3) := by decide +kernel
theorem d_m_forget_83 : decode (mz_c M_m_forget) 83 = .ok (.goto (-23), 3) := by decide +kernel
theorem d_m_forget_86 : decode (mz_c M_m_forget) 86 = .ok (.iconst 0, 1) := by decide +kernel
theorem d_m_forget_87 : decode (mz_c M_m_forget) 87 = .ok (.istore_n 1, 1) := by decide +kernel
theorem d_m_forget_88 : decode (mz_c M_m_forget) 88 = .ok (.iload_n 1, 1) := by decide +kernel
theorem d_m_forget_89 : decode (mz_c M_m_forget) 89 = .ok (.bipush 18, 2) := by decide +kernel
theorem d_m_forget_91 : decode (mz_c M_m_forget) 91 = .ok (.if_icmp .ge 16, 3) := by decide +kernel
theorem d_m_forget_94 : decode (mz_c M_m_forget) 94 = .ok (.aload_n 0, 1) := by decide +kernel
theorem d_m_forget_95 : decode (mz_c M_m_forget) 95 = .ok (.getfield 55, 3) := by decide +kernel
theorem d_m_forget_98 : decode (mz_c M_m_forget) 98 = .ok (.iload_n 1, 1) := by decide +kernel
theorem d_m_forget_99 : decode (mz_c M_m_forget) 99 = .ok (.iconst 0, 1) := by decide +kernel
theorem d_m_forget_100 : decode (mz_c M_m_forget) 100 = .ok (.iastore, 1) := by decide +kernel
theorem d_m_forget_101 : decode (mz_c M_m_forget) 101 = .ok (.iinc 1 1, 3) := by decide +kernel
theorem d_m_forget_104 : decode (mz_c M_m_forget) 104 = .ok (.goto (-16), 3) := by decide +kernel
theorem d_m_forget_107 : decode (mz_c M_m_forget) 107 = .ok (.iconst 0, 1) := by decide +kernel
theorem d_m_forget_108 : decode (mz_c M_m_forget) 108 = .ok (.istore_n 1, 1) := by decide +kernel
theorem d_m_forget_109 : decode (mz_c M_m_forget) 109 = .ok (.iload_n 1, 1) := by decide +kernel
theorem d_m_forget_110 : decode (mz_c M_m_forget) 110 = .ok (.iconst 4, 1) := by decide +kernel
theorem d_m_forget_111 : decode (mz_c M_m_forget) 111 = .ok (.if_icmp .ge 16, 3) := by decide +kernel
theorem d_m_forget_114 : decode (mz_c M_m_forget) 114 = .ok (.aload_n 0, 1) := by decide +kernel
theorem d_m_forget_115 : decode (mz_c M_m_forget) 115 = .ok (.getfield 58, 3) := by decide +kernel
theorem d_m_forget_118 : decode (mz_c M_m_forget) 118 = .ok (.iload_n 1, 1) := by decide +kernel
theorem d_m_forget_119 : decode (mz_c M_m_forget) 119 = .ok (.iconst 0, 1) := by decide +kernel
theorem d_m_forget_120 : decode (mz_c M_m_forget) 120 = .ok (.bastore, 1) := by decide +kernel
theorem d_m_forget_121 : decode (mz_c M_m_forget) 121 = .ok (.iinc 1 1, 3) := by decide +kernel
theorem d_m_forget_124 : decode (mz_c M_m_forget) 124 = .ok (.goto (-15), 3) := by decide +kernel
theorem d_m_forget_127 : decode (mz_c M_m_forget) 127 = .ok (.aload_n 0, 1) := by decide +kernel
theorem d_m_forget_128 : decode (mz_c M_m_forget) 128 = .ok (.iconst 0, 1) := by decide +kernel
theorem d_m_forget_129 : decode (mz_c M_m_forget) 129 = .ok (.putfield 110, 3) := by decide +kernel
theorem d_m_forget_132 : decode (mz_c M_m_forget) 132 = .ok (.aload_n 0, 1) := by decide +kernel
theorem d_m_forget_133 : decode (mz_c M_m_forget) 133 = .ok (.iconst (-1), 1) := by decide +kernel
theorem d_m_forget_134 : decode (mz_c M_m_forget) 134 = .ok (.putfield 42, 3) := by decide +kernel
theorem d_m_forget_137 : decode (mz_c M_m_forget) 137 = .ok (.return_, 1) := by decide +kernel
theorem d_m_nextDay_0 : decode (mz_c M_m_nextDay) 0 = .ok (.aload_n 0, 1) := by decide +kernel
theorem d_m_nextDay_1 : decode (mz_c M_m_nextDay) 1 = .ok (.iconst 0, 1) := by decide +kernel
theorem d_m_nextDay_2 : decode (mz_c M_m_nextDay) 2 = .ok (.putfield 103, 3) := by decide +kernel
theorem d_m_nextDay_5 : decode (mz_c M_m_nextDay) 5 = .ok (.aload_n 0, 1) := by decide +kernel
theorem d_m_nextDay_6 : decode (mz_c M_m_nextDay) 6 = .ok (.invokevirtual 100, 3) := by decide +kernel
theorem d_m_nextDay_9 : decode (mz_c M_m_nextDay) 9 = .ok (.return_, 1) := by decide +kernel
theorem d_m_collateral_0 : decode (mz_c M_m_collateral) 0 = .ok (.aload_n 0, 1) := by decide +kernel
theorem d_m_collateral_1 : decode (mz_c M_m_collateral) 1 = .ok (.iload_n 1, 1) := by decide +kernel
theorem d_m_collateral_2 : decode (mz_c M_m_collateral) 2 = .ok (.invokevirtual 113, 3) := by decide +kernel
theorem d_m_collateral_5 : decode (mz_c M_m_collateral) 5 = .ok (.ifCond .eq 15, 3) := by decide +kernel
theorem d_m_collateral_8 : decode (mz_c M_m_collateral) 8 = .ok (.iload_n 2, 1) := by decide +kernel
theorem d_m_collateral_9 : decode (mz_c M_m_collateral) 9 = .ok (.i2l, 1) := by decide +kernel
theorem d_m_collateral_10 : decode (mz_c M_m_collateral) 10 = .ok (.lconst 0, 1) := by decide +kernel
theorem d_m_collateral_11 : decode (mz_c M_m_collateral) 11 = .ok (.ldc2_w 117, 3) := by decide +kernel
theorem d_m_collateral_14 : decode (mz_c M_m_collateral) 14 = .ok (.invokestatic 106, 3) := by decide +kernel
theorem d_m_collateral_17 : decode (mz_c M_m_collateral) 17 = .ok (.ifCond .ne 7, 3) := by decide +kernel
theorem d_m_collateral_20 : decode (mz_c M_m_collateral) 20 = .ok (.iconst 1, 1) := by decide +kernel
theorem d_m_collateral_21 : decode (mz_c M_m_collateral) 21 = .ok (.goto 4, 3) := by decide +kernel
theorem d_m_collateral_24 : decode (mz_c M_m_collateral) 24 = .ok (.iconst 0, 1) := by decide +kernel
theorem d_m_collateral_25 : decode (mz_c M_m_collateral) 25 = .ok (.istore_n 3, 1) := by decide +kernel
theorem d_m_collateral_26 : decode (mz_c M_m_collateral) 26 = .ok (.aload_n 0, 1) := by decide +kernel
theorem d_m_collateral_27 : decode (mz_c M_m_collateral) 27 = .ok (.iload_n 3, 1) := by decide +kernel
theorem d_m_collateral_28 : decode (mz_c M_m_collateral) 28 = .ok (.iload_n 3, 1) := by decide +kernel
theorem d_m_collateral_29 : decode (mz_c M_m_collateral) 29 = .ok (.ifCond .ne 25, 3) := by decide +kernel
theorem d_m_collateral_32 : decode (mz_c M_m_collateral) 32 = .ok (.aload_n 0, 1) := by decide +kernel
theorem d_m_collateral_33 : decode (mz_c M_m_collateral) 33 = .ok (.getfield 36, 3) := by decide +kernel
theorem d_m_collateral_36 : decode (mz_c M_m_collateral) 36 = .ok (.iload_n 1, 1) := by decide +kernel
theorem d_m_collateral_37 : decode (mz_c M_m_collateral) 37 = .ok (.baload, 1) := by decide +kernel
theorem d_m_collateral_38 : decode (mz_c M_m_collateral) 38 = .ok (.ifCond .ne 12, 3) := by decide +kernel
theorem d_m_collateral_41 : decode (mz_c M_m_collateral) 41 = .ok (.aload_n 0, 1) := by decide +kernel
theorem d_m_collateral_42 : decode (mz_c M_m_collateral) 42 = .ok (.getfield 39, 3) := by decide +kernel
theorem d_m_collateral_45 : decode (mz_c M_m_collateral) 45 = .ok (.iload_n 1, 1) := by decide +kernel
theorem d_m_collateral_46 : decode (mz_c M_m_collateral) 46 = .ok (.baload, 1) := by decide +kernel
theorem d_m_collateral_47 : decode (mz_c M_m_collateral) 47 = .ok (.ifCond .eq 7, 3) := by decide +kernel
theorem d_m_collateral_50 : decode (mz_c M_m_collateral) 50 = .ok (.iconst 1, 1) := by decide +kernel
theorem d_m_collateral_51 : decode (mz_c M_m_collateral) 51 = .ok (.goto 4, 3) := by decide +kernel
theorem d_m_collateral_54 : decode (mz_c M_m_collateral) 54 = .ok (.iconst 0, 1) := by decide +kernel
theorem d_m_collateral_55 : decode (mz_c M_m_collateral) 55 = .ok (.invokevirtual 119, 3) := by decide +kernel
theorem d_m_collateral_58 : decode (mz_c M_m_collateral) 58 = .ok (.ifCond .eq 4, 3) := by decide +kernel
theorem d_m_collateral_61 : decode (mz_c M_m_collateral) 61 = .ok (.return_, 1) := by decide +kernel
theorem d_m_collateral_62 : decode (mz_c M_m_collateral) 62 = .ok (.aload_n 0, 1) := by decide +kernel
theorem d_m_collateral_63 : decode (mz_c M_m_collateral) 63 = .ok (.getfield 7, 3) := by decide +kernel
theorem d_m_collateral_66 : decode (mz_c M_m_collateral) 66 = .ok (.iload_n 1, 1) := by decide +kernel
theorem d_m_collateral_67 : decode (mz_c M_m_collateral) 67 = .ok (.iload_n 2, 1) := by decide +kernel
theorem d_m_collateral_68 : decode (mz_c M_m_collateral) 68 = .ok (.iastore, 1) := by decide +kernel
theorem d_m_collateral_69 : decode (mz_c M_m_collateral) 69 = .ok (.return_, 1) := by decide +kernel
theorem d_m_send_0 : decode (mz_c M_m_send) 0 = .ok (.iconst 0, 1) := by decide +kernel
theorem d_m_send_1 : decode (mz_c M_m_send) 1 = .ok (.istore 9, 2) := by decide +kernel
theorem d_m_send_3 : decode (mz_c M_m_send) 3 = .ok (.aload_n 0, 1) := by decide +kernel
theorem d_m_send_4 : decode (mz_c M_m_send) 4 = .ok (.getfield 36, 3) := by decide +kernel
theorem d_m_send_7 : decode (mz_c M_m_send) 7 = .ok (.iload_n 1, 1) := by decide +kernel
theorem d_m_send_8 : decode (mz_c M_m_send) 8 = .ok (.iconst 1, 1) := by decide +kernel
theorem d_m_send_9 : decode (mz_c M_m_send) 9 = .ok (.bastore, 1) := by decide +kernel
theorem d_m_send_10 : decode (mz_c M_m_send) 10 = .ok (.iload 5, 2) := by decide +kernel
theorem d_m_send_12 : decode (mz_c M_m_send) 12 = .ok (.ifCond .ne 22, 3) := by decide +kernel
theorem d_m_send_15 : decode (mz_c M_m_send) 15 = .ok (.iload 7, 2) := by decide +kernel
theorem d_m_send_17 : decode (mz_c M_m_send) 17 = .ok (.ifCond .le 17, 3) := by decide +kernel
theorem d_m_send_20 : decode (mz_c M_m_send) 20 = .ok (.iload 6, 2) := by decide +kernel
theorem d_m_send_22 : decode (mz_c M_m_send) 22 = .ok (.i2l, 1) := by decide +kernel
theorem d_m_send_23 : decode (mz_c M_m_send) 23 = .ok (.iload 7, 2) := by decide +kernel
theorem d_m_send_25 : decode (mz_c M_m_send) 25 = .ok (.i2l, 1) := by decide +kernel
theorem d_m_send_26 : decode (mz_c M_m_send) 26 = .ok (.lmul, 1) := by decide +kernel
theorem d_m_send_27 : decode (mz_c M_m_send) 27 = .ok (.iload 8, 2) := by decide +kernel
theorem d_m_send_29 : decode (mz_c M_m_send) 29 = .ok (.i2l, 1) := by decide +kernel
theorem d_m_send_30 : decode (mz_c M_m_send) 30 = .ok (.lmul, 1) := by decide +kernel
theorem d_m_send_31 : decode (mz_c M_m_send) 31 = .ok (.goto 30, 3) := by decide +kernel
theorem d_m_send_34 : decode (mz_c M_m_send) 34 = .ok (.iload 5, 2) := by decide +kernel
theorem d_m_send_36 : decode (mz_c M_m_send) 36 = .ok (.iconst 1, 1) := by decide +kernel
theorem d_m_send_37 : decode (mz_c M_m_send) 37 = .ok (.if_icmp .ne 23, 3) := by decide +kernel
theorem d_m_send_40 : decode (mz_c M_m_send) 40 = .ok (.iload 7, 2) := by decide +kernel
theorem d_m_send_42 : decode (mz_c M_m_send) 42 = .ok (.ifCond .ge 18, 3) := by decide +kernel
theorem d_m_send_45 : decode (mz_c M_m_send) 45 = .ok (.iload 6, 2) := by decide +kernel
theorem d_m_send_47 : decode (mz_c M_m_send) 47 = .ok (.i2l, 1) := by decide +kernel
theorem d_m_send_48 : decode (mz_c M_m_send) 48 = .ok (.lneg, 1) := by decide +kernel
theorem d_m_send_49 : decode (mz_c M_m_send) 49 = .ok (.iload 7, 2) := by decide +kernel
theorem d_m_send_51 : decode (mz_c M_m_send) 51 = .ok (.i2l, 1) := by decide +kernel
theorem d_m_send_52 : decode (mz_c M_m_send) 52 = .ok (.lmul, 1) := by decide +kernel
theorem d_m_send_53 : decode (mz_c M_m_send) 53 = .ok (.iload 8, 2) := by decide +kernel
theorem d_m_send_55 : decode (mz_c M_m_send) 55 = .ok (.i2l, 1) := by decide +kernel
theorem d_m_send_56 : decode (mz_c M_m_send) 56 = .ok (.lmul, 1) := by decide +kernel
theorem d_m_send_57 : decode (mz_c M_m_send) 57 = .ok (.goto 4, 3) := by decide +kernel
theorem d_m_send_60 : decode (mz_c M_m_send) 60 = .ok (.lconst 0, 1) := by decide +kernel
theorem d_m_send_61 : decode (mz_c M_m_send) 61 = .ok (.lstore 10, 2) := by decide +kernel
theorem d_m_send_63 : decode (mz_c M_m_send) 63 = .ok (.iconst 0, 1) := by decide +kernel
theorem d_m_send_64 : decode (mz_c M_m_send) 64 = .ok (.istore 12, 2) := by decide +kernel
theorem d_m_send_66 : decode (mz_c M_m_send) 66 = .ok (.iload 12, 2) := by decide +kernel
theorem d_m_send_68 : decode (mz_c M_m_send) 68 = .ok (.iconst 4, 1) := by decide +kernel
theorem d_m_send_69 : decode (mz_c M_m_send) 69 = .ok (.if_icmp .ge 146, 3) := by decide +kernel
theorem d_m_send_72 : decode (mz_c M_m_send) 72 = .ok (.iconst 4, 1) := by decide +kernel
theorem d_m_send_73 : decode (mz_c M_m_send) 73 = .ok (.iload_n 1, 1) := by decide +kernel
theorem d_m_send_74 : decode (mz_c M_m_send) 74 = .ok (.imul, 1) := by decide +kernel
theorem d_m_send_75 : decode (mz_c M_m_send) 75 = .ok (.iload 12, 2) := by decide +kernel
theorem d_m_send_77 : decode (mz_c M_m_send) 77 = .ok (.iadd, 1) := by decide +kernel
theorem d_m_send_78 : decode (mz_c M_m_send) 78 = .ok (.istore 13, 2) := by decide +kernel
theorem d_m_send_80 : decode (mz_c M_m_send) 80 = .ok (.iload_n 2, 1) := by decide +kernel
theorem d_m_send_81 : decode (mz_c M_m_send) 81 = .ok (.iconst (-1), 1) := by decide +kernel
theorem d_m_send_82 : decode (mz_c M_m_send) 82 = .ok (.if_icmp .eq 9, 3) := by decide +kernel
theorem d_m_send_85 : decode (mz_c M_m_send) 85 = .ok (.iload_n 2, 1) := by decide +kernel
theorem d_m_send_86 : decode (mz_c M_m_send) 86 = .ok (.iload 12, 2) := by decide +kernel
theorem d_m_send_88 : decode (mz_c M_m_send) 88 = .ok (.if_icmp .ne 121, 3) := by decide +kernel
theorem d_m_send_91 : decode (mz_c M_m_send) 91 = .ok (.aload_n 0, 1) := by decide +kernel
theorem d_m_send_92 : decode (mz_c M_m_send) 92 = .ok (.getfield 13, 3) := by decide +kernel
theorem d_m_send_95 : decode (mz_c M_m_send) 95 = .ok (.iload 13, 2) := by decide +kernel
theorem d_m_send_97 : decode (mz_c M_m_send) 97 = .ok (.iaload, 1) := by decide +kernel
theorem d_m_send_98 : decode (mz_c M_m_send) 98 = .ok (.bipush 10, 2) := by decide +kernel
theorem d_m_send_100 : decode (mz_c M_m_send) 100 = .ok (.if_icmp .ge 109, 3) := by decide +kernel
theorem d_m_send_103 : decode (mz_c M_m_send) 103 = .ok (.aload_n 0, 1) := by decide +kernel
theorem d_m_send_104 : decode (mz_c M_m_send) 104 = .ok (.getfield 16, 3) := by decide +kernel
theorem d_m_send_107 : decode (mz_c M_m_send) 107 = .ok (.iload 13, 2) := by decide +kernel
theorem d_m_send_109 : decode (mz_c M_m_send) 109 = .ok (.laload, 1) := by decide +kernel
theorem d_m_send_110 : decode (mz_c M_m_send) 110 = .ok (.lload 10, 2) := by decide +kernel
theorem d_m_send_112 : decode (mz_c M_m_send) 112 = .ok (.ladd, 1) := by decide +kernel
theorem d_m_send_113 : decode (mz_c M_m_send) 113 = .ok (.aload_n 0, 1) := by decide +kernel
theorem d_m_send_114 : decode (mz_c M_m_send) 114 = .ok (.getfield 7, 3) := by decide +kernel
theorem d_m_send_117 : decode (mz_c M_m_send) 117 = .ok (.iload_n 1, 1) := by decide +kernel
theorem d_m_send_118 : decode (mz_c M_m_send) 118 = .ok (.iaload, 1) := by decide +kernel
theorem d_m_send_119 : decode (mz_c M_m_send) 119 = .ok (.i2l, 1) := by decide +kernel
theorem d_m_send_120 : decode (mz_c M_m_send) 120 = .ok (.lcmp, 1) := by decide +kernel
theorem d_m_send_121 : decode (mz_c M_m_send) 121 = .ok (.ifCond .gt 88, 3) := by decide +kernel
theorem d_m_send_124 : decode (mz_c M_m_send) 124 = .ok (.bipush 10, 2) := by decide +kernel
theorem d_m_send_126 : decode (mz_c M_m_send) 126 = .ok (.iload 13, 2) := by decide +kernel
theorem d_m_send_128 : decode (mz_c M_m_send) 128 = .ok (.imul, 1) := by decide +kernel
theorem d_m_send_129 : decode (mz_c M_m_send) 129 = .ok (.aload_n 0, 1) := by decide +kernel
theorem d_m_send_130 : decode (mz_c M_m_send) 130 = .ok (.getfield 13, 3) := by decide +kernel
theorem d_m_send_133 : decode (mz_c M_m_send) 133 = .ok (.iload 13, 2) := by decide +kernel
theorem d_m_send_135 : decode (mz_c M_m_send) 135 = .ok (.iaload, 1) := by decide +kernel
theorem d_m_send_136 : decode (mz_c M_m_send) 136 = .ok (.iadd, 1) := by decide +kernel
theorem d_m_send_137 : decode (mz_c M_m_send) 137 = .ok (.istore 14, 2) := by decide +kernel
theorem d_m_send_139 : decode (mz_c M_m_send) 139 = .ok (.aload_n 0, 1) := by decide +kernel
theorem d_m_send_140 : decode (mz_c M_m_send) 140 = .ok (.getfield 20, 3) := by decide +kernel
theorem d_m_send_143 : decode (mz_c M_m_send) 143 = .ok (.iload 14, 2) := by decide +kernel
theorem d_m_send_145 : decode (mz_c M_m_send) 145 = .ok (.iload_n 3, 1) := by decide +kernel
theorem d_m_send_146 : decode (mz_c M_m_send) 146 = .ok (.bastore, 1) := by decide +kernel
theorem d_m_send_147 : decode (mz_c M_m_send) 147 = .ok (.aload_n 0, 1) := by decide +kernel
theorem d_m_send_148 : decode (mz_c M_m_send) 148 = .ok (.getfield 24, 3) := by decide +kernel
theorem d_m_send_151 : decode (mz_c M_m_send) 151 = .ok (.iload 14, 2) := by decide +kernel
theorem d_m_send_153 : decode (mz_c M_m_send) 153 = .ok (.iload 4, 2) := by decide +kernel
theorem d_m_send_155 : decode (mz_c M_m_send) 155 = .ok (.iastore, 1) := by decide +kernel
theorem d_m_send_156 : decode (mz_c M_m_send) 156 = .ok (.aload_n 0, 1) := by decide +kernel
theorem d_m_send_157 : decode (mz_c M_m_send) 157 = .ok (.getfield 27, 3) := by decide +kernel
theorem d_m_send_160 : decode (mz_c M_m_send) 160 = .ok (.iload 14, 2) := by decide +kernel
theorem d_m_send_162 : decode (mz_c M_m_send) 162 = .ok (.iload 5, 2) := by decide +kernel
theorem d_m_send_164 : decode (mz_c M_m_send) 164 = .ok (.iastore, 1) := by decide +kernel
theorem d_m_send_165 : decode (mz_c M_m_send) 165 = .ok (.aload_n 0, 1) := by decide +kernel
theorem d_m_send_166 : decode (mz_c M_m_send) 166 = .ok (.getfield 30, 3) := by decide +kernel
theorem d_m_send_169 : decode (mz_c M_m_send) 169 = .ok (.iload 14, 2) := by decide +kernel
theorem d_m_send_171 : decode (mz_c M_m_send) 171 = .ok (.iload 6, 2) := by decide +kernel
theorem d_m_send_173 : decode (mz_c M_m_send) 173 = .ok (.iastore, 1) := by decide +kernel
theorem d_m_send_174 : decode (mz_c M_m_send) 174 = .ok (.aload_n 0, 1) := by decide +kernel
theorem d_m_send_175 : decode (mz_c M_m_send) 175 = .ok (.getfield 33, 3) := by decide +kernel
theorem d_m_send_178 : decode (mz_c M_m_send) 178 = .ok (.iload 14, 2) := by decide +kernel
theorem d_m_send_180 : decode (mz_c M_m_send) 180 = .ok (.iload 7, 2) := by decide +kernel
theorem d_m_send_182 : decode (mz_c M_m_send) 182 = .ok (.iastore, 1) := by decide +kernel
theorem d_m_send_183 : decode (mz_c M_m_send) 183 = .ok (.aload_n 0, 1) := by decide +kernel
theorem d_m_send_184 : decode (mz_c M_m_send) 184 = .ok (.getfield 13, 3) := by decide +kernel
theorem d_m_send_187 : decode (mz_c M_m_send) 187 = .ok (.iload 13, 2) := by decide +kernel
theorem d_m_send_189 : decode (mz_c M_m_send) 189 = .ok (.dup2, 1) := by decide +kernel
theorem d_m_send_190 : decode (mz_c M_m_send) 190 = .ok (.iaload, 1) := by decide +kernel
theorem d_m_send_191 : decode (mz_c M_m_send) 191 = .ok (.iconst 1, 1) := by decide +kernel
theorem d_m_send_192 : decode (mz_c M_m_send) 192 = .ok (.iadd, 1) := by decide +kernel
theorem d_m_send_193 : decode (mz_c M_m_send) 193 = .ok (.iastore, 1) := by decide +kernel
theorem d_m_send_194 : decode (mz_c M_m_send) 194 = .ok (.aload_n 0, 1) := by decide +kernel
theorem d_m_send_195 : decode (mz_c M_m_send) 195 = .ok (.getfield 16, 3) := by decide +kernel
theorem d_m_send_198 : decode (mz_c M_m_send) 198 = .ok (.iload 13, 2) := by decide +kernel
theorem d_m_send_200 : decode (mz_c M_m_send) 200 = .ok (.dup2, 1) := by decide +kernel
theorem d_m_send_201 : decode (mz_c M_m_send) 201 = .ok (.laload, 1) := by decide +kernel
theorem d_m_send_202 : decode (mz_c M_m_send) 202 = .ok (.lload 10, 2) := by decide +kernel
theorem d_m_send_204 : decode (mz_c M_m_send) 204 = .ok (.ladd, 1) := by decide +kernel
theorem d_m_send_205 : decode (mz_c M_m_send) 205 = .ok (.lastore, 1) := by decide +kernel
theorem d_m_send_206 : decode (mz_c M_m_send) 206 = .ok (.iinc 9 1, 3) := by decide +kernel
theorem d_m_send_209 : decode (mz_c M_m_send) 209 = .ok (.iinc 12 1, 3) := by decide +kernel
theorem d_m_send_212 : decode (mz_c M_m_send) 212 = .ok (.goto (-146), 3) := by decide +kernel
theorem d_m_send_215 : decode (mz_c M_m_send) 215 = .ok (.iload 9, 2) := by decide +kernel
theorem d_m_send_217 : decode (mz_c M_m_send) 217 = .ok (.ireturn, 1) := by decide +kernel
theorem d_m_isBad_0 : decode (mz_c M_m_isBad) 0 = .ok (.aload_n 0, 1) := by decide +kernel
theorem d_m_isBad_1 : decode (mz_c M_m_isBad) 1 = .ok (.iload_n 1, 1) := by decide +kernel
theorem d_m_isBad_2 : decode (mz_c M_m_isBad) 2 = .ok (.invokevirtual 113, 3) := by decide +kernel
theorem d_m_isBad_5 : decode (mz_c M_m_isBad) 5 = .ok (.ifCond .eq 55, 3) := by decide +kernel
theorem d_m_isBad_8 : decode (mz_c M_m_isBad) 8 = .ok (.iload_n 2, 1) := by decide +kernel
theorem d_m_isBad_9 : decode (mz_c M_m_isBad) 9 = .ok (.i2l, 1) := by decide +kernel
theorem d_m_isBad_10 : decode (mz_c M_m_isBad) 10 = .ok (.ldc2_w 123, 3) := by decide +kernel
theorem d_m_isBad_13 : decode (mz_c M_m_isBad) 13 = .ok (.ldc2_w 125, 3) := by decide +kernel
theorem d_m_isBad_16 : decode (mz_c M_m_isBad) 16 = .ok (.invokestatic 106, 3) := by decide +kernel
theorem d_m_isBad_19 : decode (mz_c M_m_isBad) 19 = .ok (.ifCond .eq 41, 3) := by decide +kernel
theorem d_m_isBad_22 : decode (mz_c M_m_isBad) 22 = .ok (.iload_n 3, 1) := by decide +kernel
theorem d_m_isBad_23 : decode (mz_c M_m_isBad) 23 = .ok (.i2l, 1) := by decide +kernel
theorem d_m_isBad_24 : decode (mz_c M_m_isBad) 24 = .ok (.lconst 0, 1) := by decide +kernel
theorem d_m_isBad_25 : decode (mz_c M_m_isBad) 25 = .ok (.lconst 1, 1) := by decide +kernel
theorem d_m_isBad_26 : decode (mz_c M_m_isBad) 26 = .ok (.invokestatic 106, 3) := by decide +kernel
theorem d_m_isBad_29 : decode (mz_c M_m_isBad) 29 = .ok (.ifCond .eq 31, 3) := by decide +kernel
theorem d_m_isBad_32 : decode (mz_c M_m_isBad) 32 = .ok (.iload 4, 2) := by decide +kernel
theorem d_m_isBad_34 : decode (mz_c M_m_isBad) 34 = .ok (.i2l, 1) := by decide +kernel
theorem d_m_isBad_35 : decode (mz_c M_m_isBad) 35 = .ok (.lconst 1, 1) := by decide +kernel
theorem d_m_isBad_36 : decode (mz_c M_m_isBad) 36 = .ok (.ldc2_w 127, 3) := by decide +kernel
theorem d_m_isBad_39 : decode (mz_c M_m_isBad) 39 = .ok (.invokestatic 106, 3) := by decide +kernel
theorem d_m_isBad_42 : decode (mz_c M_m_isBad) 42 = .ok (.ifCond .eq 18, 3) := by decide +kernel
theorem d_m_isBad_45 : decode (mz_c M_m_isBad) 45 = .ok (.iload 5, 2) := by decide +kernel
theorem d_m_isBad_47 : decode (mz_c M_m_isBad) 47 = .ok (.i2l, 1) := by decide +kernel
theorem d_m_isBad_48 : decode (mz_c M_m_isBad) 48 = .ok (.ldc2_w 129, 3) := by decide +kernel
theorem d_m_isBad_51 : decode (mz_c M_m_isBad) 51 = .ok (.ldc2_w 131, 3) := by decide +kernel
theorem d_m_isBad_54 : decode (mz_c M_m_isBad) 54 = .ok (.invokestatic 106, 3) := by decide +kernel
theorem d_m_isBad_57 : decode (mz_c M_m_isBad) 57 = .ok (.ifCond .ne 7, 3) := by decide +kernel
theorem d_m_isBad_60 : decode (mz_c M_m_isBad) 60 = .ok (.iconst 1, 1) := by decide +kernel
theorem d_m_isBad_61 : decode (mz_c M_m_isBad) 61 = .ok (.goto 4, 3) := by decide +kernel
theorem d_m_isBad_64 : decode (mz_c M_m_isBad) 64 = .ok (.iconst 0, 1) := by decide +kernel
theorem d_m_isBad_65 : decode (mz_c M_m_isBad) 65 = .ok (.ireturn, 1) := by decide +kernel
theorem d_m_order_0 : decode (mz_c M_m_order) 0 = .ok (.aload_n 0, 1) := by decide +kernel
theorem d_m_order_1 : decode (mz_c M_m_order) 1 = .ok (.iload_n 1, 1) := by decide +kernel
theorem d_m_order_2 : decode (mz_c M_m_order) 2 = .ok (.iload_n 2, 1) := by decide +kernel
theorem d_m_order_3 : decode (mz_c M_m_order) 3 = .ok (.iload 4, 2) := by decide +kernel
theorem d_m_order_5 : decode (mz_c M_m_order) 5 = .ok (.iload 5, 2) := by decide +kernel
theorem d_m_order_7 : decode (mz_c M_m_order) 7 = .ok (.iload 6, 2) := by decide +kernel
theorem d_m_order_9 : decode (mz_c M_m_order) 9 = .ok (.invokevirtual 133, 3) := by decide +kernel
theorem d_m_order_12 : decode (mz_c M_m_order) 12 = .ok (.ifCond .ne 15, 3) := by decide +kernel
theorem d_m_order_15 : decode (mz_c M_m_order) 15 = .ok (.iload_n 3, 1) := by decide +kernel
theorem d_m_order_16 : decode (mz_c M_m_order) 16 = .ok (.i2l, 1) := by decide +kernel
theorem d_m_order_17 : decode (mz_c M_m_order) 17 = .ok (.lconst 0, 1) := by decide +kernel
theorem d_m_order_18 : decode (mz_c M_m_order) 18 = .ok (.ldc2_w 137, 3) := by decide +kernel
theorem d_m_order_21 : decode (mz_c M_m_order) 21 = .ok (.invokestatic 106, 3) := by decide +kernel
theorem d_m_order_24 : decode (mz_c M_m_order) 24 = .ok (.ifCond .ne 7, 3) := by decide +kernel
theorem d_m_order_27 : decode (mz_c M_m_order) 27 = .ok (.iconst 1, 1) := by decide +kernel
theorem d_m_order_28 : decode (mz_c M_m_order) 28 = .ok (.goto 4, 3) := by decide +kernel
theorem d_m_order_31 : decode (mz_c M_m_order) 31 = .ok (.iconst 0, 1) := by decide +kernel
theorem d_m_order_32 : decode (mz_c M_m_order) 32 = .ok (.istore 7, 2) := by decide +kernel
theorem d_m_order_34 : decode (mz_c M_m_order) 34 = .ok (.aload_n 0, 1) := by decide +kernel
theorem d_m_order_35 : decode (mz_c M_m_order) 35 = .ok (.iload 7, 2) := by decide +kernel
theorem d_m_order_37 : decode (mz_c M_m_order) 37 = .ok (.iload 7, 2) := by decide +kernel
theorem d_m_order_39 : decode (mz_c M_m_order) 39 = .ok (.ifCond .ne 16, 3) := by decide +kernel
theorem d_m_order_42 : decode (mz_c M_m_order) 42 = .ok (.aload_n 0, 1) := by decide +kernel
theorem d_m_order_43 : decode (mz_c M_m_order) 43 = .ok (.getfield 39, 3) := by decide +kernel
theorem d_m_order_46 : decode (mz_c M_m_order) 46 = .ok (.iload_n 1, 1) := by decide +kernel
theorem d_m_order_47 : decode (mz_c M_m_order) 47 = .ok (.baload, 1) := by decide +kernel
theorem d_m_order_48 : decode (mz_c M_m_order) 48 = .ok (.ifCond .eq 7, 3) := by decide +kernel
theorem d_m_order_51 : decode (mz_c M_m_order) 51 = .ok (.iconst 1, 1) := by decide +kernel
theorem d_m_order_52 : decode (mz_c M_m_order) 52 = .ok (.goto 4, 3) := by decide +kernel
theorem d_m_order_55 : decode (mz_c M_m_order) 55 = .ok (.iconst 0, 1) := by decide +kernel
theorem d_m_order_56 : decode (mz_c M_m_order) 56 = .ok (.invokevirtual 119, 3) := by decide +kernel
theorem d_m_order_59 : decode (mz_c M_m_order) 59 = .ok (.ifCond .eq 5, 3) := by decide +kernel
theorem d_m_order_62 : decode (mz_c M_m_order) 62 = .ok (.iconst 0, 1) := by decide +kernel
theorem d_m_order_63 : decode (mz_c M_m_order) 63 = .ok (.ireturn, 1) := by decide +kernel
theorem d_m_order_64 : decode (mz_c M_m_order) 64 = .ok (.aload_n 0, 1) := by decide +kernel
theorem d_m_order_65 : decode (mz_c M_m_order) 65 = .ok (.iload_n 1, 1) := by decide +kernel
theorem d_m_order_66 : decode (mz_c M_m_order) 66 = .ok (.iload_n 2, 1) := by decide +kernel
theorem d_m_order_67 : decode (mz_c M_m_order) 67 = .ok (.iconst 0, 1) := by decide +kernel
theorem d_m_order_68 : decode (mz_c M_m_order) 68 = .ok (.iload_n 3, 1) := by decide +kernel
theorem d_m_order_69 : decode (mz_c M_m_order) 69 = .ok (.iload 4, 2) := by decide +kernel
theorem d_m_order_71 : decode (mz_c M_m_order) 71 = .ok (.iload 5, 2) := by decide +kernel
theorem d_m_order_73 : decode (mz_c M_m_order) 73 = .ok (.iload 6, 2) := by decide +kernel
theorem d_m_order_75 : decode (mz_c M_m_order) 75 = .ok (.iconst 1, 1) := by decide +kernel
theorem d_m_order_76 : decode (mz_c M_m_order) 76 = .ok (.invokevirtual 139, 3) := by decide +kernel
theorem d_m_order_79 : decode (mz_c M_m_order) 79 = .ok (.ireturn, 1) := by decide +kernel
theorem d_m_block_0 : decode (mz_c M_m_block) 0 = .ok (.aload_n 0, 1) := by decide +kernel
theorem d_m_block_1 : decode (mz_c M_m_block) 1 = .ok (.iload_n 1, 1) := by decide +kernel
theorem d_m_block_2 : decode (mz_c M_m_block) 2 = .ok (.iload_n 2, 1) := by decide +kernel
theorem d_m_block_3 : decode (mz_c M_m_block) 3 = .ok (.iload 4, 2) := by decide +kernel
theorem d_m_block_5 : decode (mz_c M_m_block) 5 = .ok (.iload 5, 2) := by decide +kernel
theorem d_m_block_7 : decode (mz_c M_m_block) 7 = .ok (.iload 6, 2) := by decide +kernel
theorem d_m_block_9 : decode (mz_c M_m_block) 9 = .ok (.invokevirtual 133, 3) := by decide +kernel
theorem d_m_block_12 : decode (mz_c M_m_block) 12 = .ok (.ifCond .ne 23, 3) := by decide +kernel
theorem d_m_block_15 : decode (mz_c M_m_block) 15 = .ok (.iload_n 3, 1) := by decide +kernel
theorem d_m_block_16 : decode (mz_c M_m_block) 16 = .ok (.ifCond .lt 19, 3) := by decide +kernel
theorem d_m_block_19 : decode (mz_c M_m_block) 19 = .ok (.iload_n 3, 1) := by decide +kernel
theorem d_m_block_20 : decode (mz_c M_m_block) 20 = .ok (.iconst 4, 1) := by decide +kernel
theorem d_m_block_21 : decode (mz_c M_m_block) 21 = .ok (.irem, 1) := by decide +kernel
theorem d_m_block_22 : decode (mz_c M_m_block) 22 = .ok (.iconst 2, 1) := by decide +kernel
theorem d_m_block_23 : decode (mz_c M_m_block) 23 = .ok (.if_icmp .gt 12, 3) := by decide +kernel
theorem d_m_block_26 : decode (mz_c M_m_block) 26 = .ok (.iload_n 3, 1) := by decide +kernel
theorem d_m_block_27 : decode (mz_c M_m_block) 27 = .ok (.iconst 4, 1) := by decide +kernel
theorem d_m_block_28 : decode (mz_c M_m_block) 28 = .ok (.idiv, 1) := by decide +kernel
theorem d_m_block_29 : decode (mz_c M_m_block) 29 = .ok (.iload_n 3, 1) := by decide +kernel
theorem d_m_block_30 : decode (mz_c M_m_block) 30 = .ok (.iconst 4, 1) := by decide +kernel
theorem d_m_block_31 : decode (mz_c M_m_block) 31 = .ok (.irem, 1) := by decide +kernel
theorem d_m_block_32 : decode (mz_c M_m_block) 32 = .ok (.if_icmp .le 7, 3) := by decide +kernel
theorem d_m_block_35 : decode (mz_c M_m_block) 35 = .ok (.iconst 1, 1) := by decide +kernel
theorem d_m_block_36 : decode (mz_c M_m_block) 36 = .ok (.goto 4, 3) := by decide +kernel
theorem d_m_block_39 : decode (mz_c M_m_block) 39 = .ok (.iconst 0, 1) := by decide +kernel
theorem d_m_block_40 : decode (mz_c M_m_block) 40 = .ok (.istore 7, 2) := by decide +kernel
theorem d_m_block_42 : decode (mz_c M_m_block) 42 = .ok (.aload_n 0, 1) := by decide +kernel
theorem d_m_block_43 : decode (mz_c M_m_block) 43 = .ok (.iload 7, 2) := by decide +kernel
theorem d_m_block_45 : decode (mz_c M_m_block) 45 = .ok (.iload 7, 2) := by decide +kernel
theorem d_m_block_47 : decode (mz_c M_m_block) 47 = .ok (.ifCond .ne 16, 3) := by decide +kernel
theorem d_m_block_50 : decode (mz_c M_m_block) 50 = .ok (.aload_n 0, 1) := by decide +kernel
theorem d_m_block_51 : decode (mz_c M_m_block) 51 = .ok (.getfield 39, 3) := by decide +kernel
theorem d_m_block_54 : decode (mz_c M_m_block) 54 = .ok (.iload_n 1, 1) := by decide +kernel
theorem d_m_block_55 : decode (mz_c M_m_block) 55 = .ok (.baload, 1) := by decide +kernel
theorem d_m_block_56 : decode (mz_c M_m_block) 56 = .ok (.ifCond .eq 7, 3) := by decide +kernel
theorem d_m_block_59 : decode (mz_c M_m_block) 59 = .ok (.iconst 1, 1) := by decide +kernel
theorem d_m_block_60 : decode (mz_c M_m_block) 60 = .ok (.goto 4, 3) := by decide +kernel
theorem d_m_block_63 : decode (mz_c M_m_block) 63 = .ok (.iconst 0, 1) := by decide +kernel
theorem d_m_block_64 : decode (mz_c M_m_block) 64 = .ok (.invokevirtual 119, 3) := by decide +kernel
theorem d_m_block_67 : decode (mz_c M_m_block) 67 = .ok (.ifCond .eq 5, 3) := by decide +kernel
theorem d_m_block_70 : decode (mz_c M_m_block) 70 = .ok (.iconst 0, 1) := by decide +kernel
theorem d_m_block_71 : decode (mz_c M_m_block) 71 = .ok (.ireturn, 1) := by decide +kernel
theorem d_m_block_72 : decode (mz_c M_m_block) 72 = .ok (.aload_n 0, 1) := by decide +kernel
theorem d_m_block_73 : decode (mz_c M_m_block) 73 = .ok (.iload_n 1, 1) := by decide +kernel
theorem d_m_block_74 : decode (mz_c M_m_block) 74 = .ok (.iload_n 2, 1) := by decide +kernel
theorem d_m_block_75 : decode (mz_c M_m_block) 75 = .ok (.iconst 1, 1) := by decide +kernel
theorem d_m_block_76 : decode (mz_c M_m_block) 76 = .ok (.iload_n 3, 1) := by decide +kernel
theorem d_m_block_77 : decode (mz_c M_m_block) 77 = .ok (.iload 4, 2) := by decide +kernel
theorem d_m_block_79 : decode (mz_c M_m_block) 79 = .ok (.iload 5, 2) := by decide +kernel
theorem d_m_block_81 : decode (mz_c M_m_block) 81 = .ok (.iload 6, 2) := by decide +kernel
theorem d_m_block_83 : decode (mz_c M_m_block) 83 = .ok (.iload_n 3, 1) := by decide +kernel
theorem d_m_block_84 : decode (mz_c M_m_block) 84 = .ok (.iconst 4, 1) := by decide +kernel
theorem d_m_block_85 : decode (mz_c M_m_block) 85 = .ok (.irem, 1) := by decide +kernel
theorem d_m_block_86 : decode (mz_c M_m_block) 86 = .ok (.iload_n 3, 1) := by decide +kernel
theorem d_m_block_87 : decode (mz_c M_m_block) 87 = .ok (.iconst 4, 1) := by decide +kernel
theorem d_m_block_88 : decode (mz_c M_m_block) 88 = .ok (.idiv, 1) := by decide +kernel
theorem d_m_block_89 : decode (mz_c M_m_block) 89 = .ok (.isub, 1) := by decide +kernel
theorem d_m_block_90 : decode (mz_c M_m_block) 90 = .ok (.iconst 1, 1) := by decide +kernel
theorem d_m_block_91 : decode (mz_c M_m_block) 91 = .ok (.iadd, 1) := by decide +kernel
theorem d_m_block_92 : decode (mz_c M_m_block) 92 = .ok (.invokevirtual 139, 3) := by decide +kernel
theorem d_m_block_95 : decode (mz_c M_m_block) 95 = .ok (.ireturn, 1) := by decide +kernel
theorem d_m_sealedOnes_0 : decode (mz_c M_m_sealedOnes) 0 = .ok (.iconst 0, 1) := by decide +kernel
theorem d_m_sealedOnes_1 : decode (mz_c M_m_sealedOnes) 1 = .ok (.istore_n 1, 1) := by decide +kernel
theorem d_m_sealedOnes_2 : decode (mz_c M_m_sealedOnes) 2 = .ok (.iconst 0, 1) := by decide +kernel
theorem d_m_sealedOnes_3 : decode (mz_c M_m_sealedOnes) 3 = .ok (.istore_n 2, 1) := by decide +kernel
theorem d_m_sealedOnes_4 : decode (mz_c M_m_sealedOnes) 4 = .ok (.iload_n 2, 1) := by decide +kernel
theorem d_m_sealedOnes_5 : decode (mz_c M_m_sealedOnes) 5 = .ok (.aload_n 0, 1) := by decide +kernel
theorem d_m_sealedOnes_6 : decode (mz_c M_m_sealedOnes) 6 = .ok (.getfield 97, 3) := by decide +kernel
theorem d_m_sealedOnes_9 : decode (mz_c M_m_sealedOnes) 9 = .ok (.if_icmp .ge 26, 3) := by decide +kernel
theorem d_m_sealedOnes_12 : decode (mz_c M_m_sealedOnes) 12 = .ok (.iload_n 1, 1) := by decide +kernel
theorem d_m_sealedOnes_13 : decode (mz_c M_m_sealedOnes) 13 = .ok (.aload_n 0, 1) := by decide +kernel
theorem d_m_sealedOnes_14 : decode (mz_c M_m_sealedOnes) 14 = .ok (.getfield 39, 3) := by decide +kernel
theorem d_m_sealedOnes_17 : decode (mz_c M_m_sealedOnes) 17 = .ok (.iload_n 2, 1) := by decide +kernel
theorem d_m_sealedOnes_18 : decode (mz_c M_m_sealedOnes) 18 = .ok (.baload, 1) := by decide +kernel
theorem d_m_sealedOnes_19 : decode (mz_c M_m_sealedOnes) 19 = .ok (.ifCond .eq 7, 3) := by decide +kernel
theorem d_m_sealedOnes_22 : decode (mz_c M_m_sealedOnes) 22 = .ok (.iconst 1, 1) := by decide +kernel
theorem d_m_sealedOnes_23 : decode (mz_c M_m_sealedOnes) 23 = .ok (.goto 4, 3) := by decide +kernel
theorem d_m_sealedOnes_26 : decode (mz_c M_m_sealedOnes) 26 = .ok (.iconst 0, 1) := by decide +kernel
theorem d_m_sealedOnes_27 : decode (mz_c M_m_sealedOnes) 27 = .ok (.iadd, 1) := by decide +kernel
theorem d_m_sealedOnes_28 : decode (mz_c M_m_sealedOnes) 28 = .ok (.istore_n 1, 1) := by decide +kernel
theorem d_m_sealedOnes_29 : decode (mz_c M_m_sealedOnes) 29 = .ok (.iinc 2 1, 3) := by decide +kernel
theorem d_m_sealedOnes_32 : decode (mz_c M_m_sealedOnes) 32 = .ok (.goto (-28), 3) := by decide +kernel
theorem d_m_sealedOnes_35 : decode (mz_c M_m_sealedOnes) 35 = .ok (.iload_n 1, 1) := by decide +kernel
theorem d_m_sealedOnes_36 : decode (mz_c M_m_sealedOnes) 36 = .ok (.ireturn, 1) := by decide +kernel
theorem d_m_seal_0 : decode (mz_c M_m_seal) 0 = .ok (.aload_n 0, 1) := by decide +kernel
theorem d_m_seal_1 : decode (mz_c M_m_seal) 1 = .ok (.iload_n 1, 1) := by decide +kernel
theorem d_m_seal_2 : decode (mz_c M_m_seal) 2 = .ok (.invokevirtual 113, 3) := by decide +kernel
theorem d_m_seal_5 : decode (mz_c M_m_seal) 5 = .ok (.ifCond .ne 7, 3) := by decide +kernel
theorem d_m_seal_8 : decode (mz_c M_m_seal) 8 = .ok (.iconst 1, 1) := by decide +kernel
theorem d_m_seal_9 : decode (mz_c M_m_seal) 9 = .ok (.goto 4, 3) := by decide +kernel
theorem d_m_seal_12 : decode (mz_c M_m_seal) 12 = .ok (.iconst 0, 1) := by decide +kernel
theorem d_m_seal_13 : decode (mz_c M_m_seal) 13 = .ok (.istore_n 2, 1) := by decide +kernel
theorem d_m_seal_14 : decode (mz_c M_m_seal) 14 = .ok (.aload_n 0, 1) := by decide +kernel
theorem d_m_seal_15 : decode (mz_c M_m_seal) 15 = .ok (.iload_n 2, 1) := by decide +kernel
theorem d_m_seal_16 : decode (mz_c M_m_seal) 16 = .ok (.iload_n 2, 1) := by decide +kernel
theorem d_m_seal_17 : decode (mz_c M_m_seal) 17 = .ok (.ifCond .ne 16, 3) := by decide +kernel
theorem d_m_seal_20 : decode (mz_c M_m_seal) 20 = .ok (.aload_n 0, 1) := by decide +kernel
theorem d_m_seal_21 : decode (mz_c M_m_seal) 21 = .ok (.getfield 39, 3) := by decide +kernel
theorem d_m_seal_24 : decode (mz_c M_m_seal) 24 = .ok (.iload_n 1, 1) := by decide +kernel
theorem d_m_seal_25 : decode (mz_c M_m_seal) 25 = .ok (.baload, 1) := by decide +kernel
theorem d_m_seal_26 : decode (mz_c M_m_seal) 26 = .ok (.ifCond .eq 7, 3) := by decide +kernel
theorem d_m_seal_29 : decode (mz_c M_m_seal) 29 = .ok (.iconst 1, 1) := by decide +kernel
theorem d_m_seal_30 : decode (mz_c M_m_seal) 30 = .ok (.goto 4, 3) := by decide +kernel
theorem d_m_seal_33 : decode (mz_c M_m_seal) 33 = .ok (.iconst 0, 1) := by decide +kernel
theorem d_m_seal_34 : decode (mz_c M_m_seal) 34 = .ok (.invokevirtual 119, 3) := by decide +kernel
theorem d_m_seal_37 : decode (mz_c M_m_seal) 37 = .ok (.ifCond .eq 5, 3) := by decide +kernel
theorem d_m_seal_40 : decode (mz_c M_m_seal) 40 = .ok (.iconst 0, 1) := by decide +kernel
theorem d_m_seal_41 : decode (mz_c M_m_seal) 41 = .ok (.ireturn, 1) := by decide +kernel
theorem d_m_seal_42 : decode (mz_c M_m_seal) 42 = .ok (.aload_n 0, 1) := by decide +kernel
theorem d_m_seal_43 : decode (mz_c M_m_seal) 43 = .ok (.getfield 39, 3) := by decide +kernel
theorem d_m_seal_46 : decode (mz_c M_m_seal) 46 = .ok (.iload_n 1, 1) := by decide +kernel
theorem d_m_seal_47 : decode (mz_c M_m_seal) 47 = .ok (.iconst 1, 1) := by decide +kernel
theorem d_m_seal_48 : decode (mz_c M_m_seal) 48 = .ok (.bastore, 1) := by decide +kernel
theorem d_m_seal_49 : decode (mz_c M_m_seal) 49 = .ok (.aload_n 0, 1) := by decide +kernel
theorem d_m_seal_50 : decode (mz_c M_m_seal) 50 = .ok (.invokevirtual 143, 3) := by decide +kernel
theorem d_m_seal_53 : decode (mz_c M_m_seal) 53 = .ok (.ireturn, 1) := by decide +kernel
theorem d_m_liar_0 : decode (mz_c M_m_liar) 0 = .ok (.iload_n 1, 1) := by decide +kernel
theorem d_m_liar_1 : decode (mz_c M_m_liar) 1 = .ok (.i2l, 1) := by decide +kernel
theorem d_m_liar_2 : decode (mz_c M_m_liar) 2 = .ok (.lconst 0, 1) := by decide +kernel
theorem d_m_liar_3 : decode (mz_c M_m_liar) 3 = .ok (.ldc2_w 125, 3) := by decide +kernel
theorem d_m_liar_6 : decode (mz_c M_m_liar) 6 = .ok (.invokestatic 106, 3) := by decide +kernel
theorem d_m_liar_9 : decode (mz_c M_m_liar) 9 = .ok (.ifCond .ne 7, 3) := by decide +kernel
theorem d_m_liar_12 : decode (mz_c M_m_liar) 12 = .ok (.iconst 1, 1) := by decide +kernel
theorem d_m_liar_13 : decode (mz_c M_m_liar) 13 = .ok (.goto 4, 3) := by decide +kernel
theorem d_m_liar_16 : decode (mz_c M_m_liar) 16 = .ok (.iconst 0, 1) := by decide +kernel
theorem d_m_liar_17 : decode (mz_c M_m_liar) 17 = .ok (.istore_n 2, 1) := by decide +kernel
theorem d_m_liar_18 : decode (mz_c M_m_liar) 18 = .ok (.aload_n 0, 1) := by decide +kernel
theorem d_m_liar_19 : decode (mz_c M_m_liar) 19 = .ok (.iload_n 2, 1) := by decide +kernel
theorem d_m_liar_20 : decode (mz_c M_m_liar) 20 = .ok (.iload_n 2, 1) := by decide +kernel
theorem d_m_liar_21 : decode (mz_c M_m_liar) 21 = .ok (.ifCond .ne 21, 3) := by decide +kernel
theorem d_m_liar_24 : decode (mz_c M_m_liar) 24 = .ok (.aload_n 0, 1) := by decide +kernel
theorem d_m_liar_25 : decode (mz_c M_m_liar) 25 = .ok (.getfield 42, 3) := by decide +kernel
theorem d_m_liar_28 : decode (mz_c M_m_liar) 28 = .ok (.ifCond .ge 10, 3) := by decide +kernel
theorem d_m_liar_31 : decode (mz_c M_m_liar) 31 = .ok (.aload_n 0, 1) := by decide +kernel
theorem d_m_liar_32 : decode (mz_c M_m_liar) 32 = .ok (.getfield 110, 3) := by decide +kernel
theorem d_m_liar_35 : decode (mz_c M_m_liar) 35 = .ok (.ifCond .le 7, 3) := by decide +kernel
theorem d_m_liar_38 : decode (mz_c M_m_liar) 38 = .ok (.iconst 1, 1) := by decide +kernel
theorem d_m_liar_39 : decode (mz_c M_m_liar) 39 = .ok (.goto 4, 3) := by decide +kernel
theorem d_m_liar_42 : decode (mz_c M_m_liar) 42 = .ok (.iconst 0, 1) := by decide +kernel
theorem d_m_liar_43 : decode (mz_c M_m_liar) 43 = .ok (.invokevirtual 119, 3) := by decide +kernel
theorem d_m_liar_46 : decode (mz_c M_m_liar) 46 = .ok (.ifCond .eq 4, 3) := by decide +kernel
theorem d_m_liar_49 : decode (mz_c M_m_liar) 49 = .ok (.return_, 1) := by decide +kernel
theorem d_m_liar_50 : decode (mz_c M_m_liar) 50 = .ok (.aload_n 0, 1) := by decide +kernel
theorem d_m_liar_51 : decode (mz_c M_m_liar) 51 = .ok (.iload_n 1, 1) := by decide +kernel
theorem d_m_liar_52 : decode (mz_c M_m_liar) 52 = .ok (.putfield 42, 3) := by decide +kernel
theorem d_m_liar_55 : decode (mz_c M_m_liar) 55 = .ok (.return_, 1) := by decide +kernel
theorem d_m_tell_0 : decode (mz_c M_m_tell) 0 = .ok (.iload_n 1, 1) := by decide +kernel
theorem d_m_tell_1 : decode (mz_c M_m_tell) 1 = .ok (.i2l, 1) := by decide +kernel
theorem d_m_tell_2 : decode (mz_c M_m_tell) 2 = .ok (.lconst 0, 1) := by decide +kernel
theorem d_m_tell_3 : decode (mz_c M_m_tell) 3 = .ok (.ldc2_w 125, 3) := by decide +kernel
theorem d_m_tell_6 : decode (mz_c M_m_tell) 6 = .ok (.invokestatic 106, 3) := by decide +kernel
theorem d_m_tell_9 : decode (mz_c M_m_tell) 9 = .ok (.ifCond .eq 44, 3) := by decide +kernel
theorem d_m_tell_12 : decode (mz_c M_m_tell) 12 = .ok (.iload_n 2, 1) := by decide +kernel
theorem d_m_tell_13 : decode (mz_c M_m_tell) 13 = .ok (.i2l, 1) := by decide +kernel
theorem d_m_tell_14 : decode (mz_c M_m_tell) 14 = .ok (.lconst 0, 1) := by decide +kernel
theorem d_m_tell_15 : decode (mz_c M_m_tell) 15 = .ok (.ldc2_w 125, 3) := by decide +kernel
theorem d_m_tell_18 : decode (mz_c M_m_tell) 18 = .ok (.invokestatic 106, 3) := by decide +kernel
theorem d_m_tell_21 : decode (mz_c M_m_tell) 21 = .ok (.ifCond .eq 32, 3) := by decide +kernel
theorem d_m_tell_24 : decode (mz_c M_m_tell) 24 = .ok (.aload_n 0, 1) := by decide +kernel
theorem d_m_tell_25 : decode (mz_c M_m_tell) 25 = .ok (.iload_n 3, 1) := by decide +kernel
theorem d_m_tell_26 : decode (mz_c M_m_tell) 26 = .ok (.invokevirtual 113, 3) := by decide +kernel
theorem d_m_tell_29 : decode (mz_c M_m_tell) 29 = .ok (.ifCond .eq 24, 3) := by decide +kernel
theorem d_m_tell_32 : decode (mz_c M_m_tell) 32 = .ok (.iload 4, 2) := by decide +kernel
theorem d_m_tell_34 : decode (mz_c M_m_tell) 34 = .ok (.i2l, 1) := by decide +kernel
theorem d_m_tell_35 : decode (mz_c M_m_tell) 35 = .ok (.ldc2_w 123, 3) := by decide +kernel
theorem d_m_tell_38 : decode (mz_c M_m_tell) 38 = .ok (.iconst 4, 1) := by decide +kernel
theorem d_m_tell_39 : decode (mz_c M_m_tell) 39 = .ok (.aload_n 0, 1) := by decide +kernel
theorem d_m_tell_40 : decode (mz_c M_m_tell) 40 = .ok (.getfield 97, 3) := by decide +kernel
theorem d_m_tell_43 : decode (mz_c M_m_tell) 43 = .ok (.imul, 1) := by decide +kernel
theorem d_m_tell_44 : decode (mz_c M_m_tell) 44 = .ok (.iconst 1, 1) := by decide +kernel
theorem d_m_tell_45 : decode (mz_c M_m_tell) 45 = .ok (.isub, 1) := by decide +kernel
theorem d_m_tell_46 : decode (mz_c M_m_tell) 46 = .ok (.i2l, 1) := by decide +kernel
theorem d_m_tell_47 : decode (mz_c M_m_tell) 47 = .ok (.invokestatic 106, 3) := by decide +kernel
theorem d_m_tell_50 : decode (mz_c M_m_tell) 50 = .ok (.ifCond .ne 7, 3) := by decide +kernel
theorem d_m_tell_53 : decode (mz_c M_m_tell) 53 = .ok (.iconst 1, 1) := by decide +kernel
theorem d_m_tell_54 : decode (mz_c M_m_tell) 54 = .ok (.goto 4, 3) := by decide +kernel
theorem d_m_tell_57 : decode (mz_c M_m_tell) 57 = .ok (.iconst 0, 1) := by decide +kernel
theorem d_m_tell_58 : decode (mz_c M_m_tell) 58 = .ok (.istore 5, 2) := by decide +kernel
theorem d_m_tell_60 : decode (mz_c M_m_tell) 60 = .ok (.iload 5, 2) := by decide +kernel
theorem d_m_tell_62 : decode (mz_c M_m_tell) 62 = .ok (.ifCond .ne 29, 3) := by decide +kernel
theorem d_m_tell_65 : decode (mz_c M_m_tell) 65 = .ok (.aload_n 0, 1) := by decide +kernel
theorem d_m_tell_66 : decode (mz_c M_m_tell) 66 = .ok (.getfield 42, 3) := by decide +kernel
theorem d_m_tell_69 : decode (mz_c M_m_tell) 69 = .ok (.ifCond .lt 18, 3) := by decide +kernel
theorem d_m_tell_72 : decode (mz_c M_m_tell) 72 = .ok (.aload_n 0, 1) := by decide +kernel
theorem d_m_tell_73 : decode (mz_c M_m_tell) 73 = .ok (.getfield 110, 3) := by decide +kernel
theorem d_m_tell_76 : decode (mz_c M_m_tell) 76 = .ok (.i2l, 1) := by decide +kernel
theorem d_m_tell_77 : decode (mz_c M_m_tell) 77 = .ok (.lconst 1, 1) := by decide +kernel
theorem d_m_tell_78 : decode (mz_c M_m_tell) 78 = .ok (.ldc2_w 137, 3) := by decide +kernel
theorem d_m_tell_81 : decode (mz_c M_m_tell) 81 = .ok (.invokestatic 106, 3) := by decide +kernel
theorem d_m_tell_84 : decode (mz_c M_m_tell) 84 = .ok (.ifCond .ne 7, 3) := by decide +kernel
theorem d_m_tell_87 : decode (mz_c M_m_tell) 87 = .ok (.iconst 1, 1) := by decide +kernel
theorem d_m_tell_88 : decode (mz_c M_m_tell) 88 = .ok (.goto 4, 3) := by decide +kernel
theorem d_m_tell_91 : decode (mz_c M_m_tell) 91 = .ok (.iconst 0, 1) := by decide +kernel
theorem d_m_tell_92 : decode (mz_c M_m_tell) 92 = .ok (.istore 6, 2) := by decide +kernel
theorem d_m_tell_94 : decode (mz_c M_m_tell) 94 = .ok (.iload 5, 2) := by decide +kernel
theorem d_m_tell_96 : decode (mz_c M_m_tell) 96 = .ok (.ifCond .ne 52, 3) := by decide +kernel
theorem d_m_tell_99 : decode (mz_c M_m_tell) 99 = .ok (.iload 6, 2) := by decide +kernel
theorem d_m_tell_101 : decode (mz_c M_m_tell) 101 = .ok (.ifCond .ne 47, 3) := by decide +kernel
theorem d_m_tell_104 : decode (mz_c M_m_tell) 104 = .ok (.iload_n 1, 1) := by decide +kernel
theorem d_m_tell_105 : decode (mz_c M_m_tell) 105 = .ok (.aload_n 0, 1) := by decide +kernel
theorem d_m_tell_106 : decode (mz_c M_m_tell) 106 = .ok (.getfield 42, 3) := by decide +kernel
theorem d_m_tell_109 : decode (mz_c M_m_tell) 109 = .ok (.if_icmp .eq 35, 3) := by decide +kernel
theorem d_m_tell_112 : decode (mz_c M_m_tell) 112 = .ok (.aload_n 0, 1) := by decide +kernel
theorem d_m_tell_113 : decode (mz_c M_m_tell) 113 = .ok (.getfield 110, 3) := by decide +kernel
theorem d_m_tell_116 : decode (mz_c M_m_tell) 116 = .ok (.iconst 1, 1) := by decide +kernel
theorem d_m_tell_117 : decode (mz_c M_m_tell) 117 = .ok (.if_icmp .ne 14, 3) := by decide +kernel
theorem d_m_tell_120 : decode (mz_c M_m_tell) 120 = .ok (.iload_n 2, 1) := by decide +kernel
theorem d_m_tell_121 : decode (mz_c M_m_tell) 121 = .ok (.aload_n 0, 1) := by decide +kernel
theorem d_m_tell_122 : decode (mz_c M_m_tell) 122 = .ok (.getfield 42, 3) := by decide +kernel
theorem d_m_tell_125 : decode (mz_c M_m_tell) 125 = .ok (.if_icmp .eq 23, 3) := by decide +kernel
theorem d_m_tell_128 : decode (mz_c M_m_tell) 128 = .ok (.goto 16, 3) := by decide +kernel
theorem d_m_tell_131 : decode (mz_c M_m_tell) 131 = .ok (.iload_n 2, 1) := by decide +kernel
theorem d_m_tell_132 : decode (mz_c M_m_tell) 132 = .ok (.aload_n 0, 1) := by decide +kernel
theorem d_m_tell_133 : decode (mz_c M_m_tell) 133 = .ok (.getfield 42, 3) := by decide +kernel
theorem d_m_tell_136 : decode (mz_c M_m_tell) 136 = .ok (.if_icmp .eq 8, 3) := by decide +kernel
theorem d_m_tell_139 : decode (mz_c M_m_tell) 139 = .ok (.iload_n 2, 1) := by decide +kernel
theorem d_m_tell_140 : decode (mz_c M_m_tell) 140 = .ok (.iload_n 1, 1) := by decide +kernel
theorem d_m_tell_141 : decode (mz_c M_m_tell) 141 = .ok (.if_icmp .ne 7, 3) := by decide +kernel
theorem d_m_tell_144 : decode (mz_c M_m_tell) 144 = .ok (.iconst 1, 1) := by decide +kernel
theorem d_m_tell_145 : decode (mz_c M_m_tell) 145 = .ok (.goto 4, 3) := by decide +kernel
theorem d_m_tell_148 : decode (mz_c M_m_tell) 148 = .ok (.iconst 0, 1) := by decide +kernel
theorem d_m_tell_149 : decode (mz_c M_m_tell) 149 = .ok (.istore 7, 2) := by decide +kernel
theorem d_m_tell_151 : decode (mz_c M_m_tell) 151 = .ok (.aload_n 0, 1) := by decide +kernel
theorem d_m_tell_152 : decode (mz_c M_m_tell) 152 = .ok (.iload 5, 2) := by decide +kernel
theorem d_m_tell_154 : decode (mz_c M_m_tell) 154 = .ok (.ifCond .ne 8, 3) := by decide +kernel
theorem d_m_tell_157 : decode (mz_c M_m_tell) 157 = .ok (.iload 7, 2) := by decide +kernel
theorem d_m_tell_159 : decode (mz_c M_m_tell) 159 = .ok (.ifCond .eq 7, 3) := by decide +kernel
theorem d_m_tell_162 : decode (mz_c M_m_tell) 162 = .ok (.iconst 1, 1) := by decide +kernel
theorem d_m_tell_163 : decode (mz_c M_m_tell) 163 = .ok (.goto 4, 3) := by decide +kernel
theorem d_m_tell_166 : decode (mz_c M_m_tell) 166 = .ok (.iconst 0, 1) := by decide +kernel
theorem d_m_tell_167 : decode (mz_c M_m_tell) 167 = .ok (.iload 6, 2) := by decide +kernel
theorem d_m_tell_169 : decode (mz_c M_m_tell) 169 = .ok (.invokevirtual 119, 3) := by decide +kernel
theorem d_m_tell_172 : decode (mz_c M_m_tell) 172 = .ok (.ifCond .eq 4, 3) := by decide +kernel
theorem d_m_tell_175 : decode (mz_c M_m_tell) 175 = .ok (.return_, 1) := by decide +kernel
theorem d_m_tell_176 : decode (mz_c M_m_tell) 176 = .ok (.aload_n 0, 1) := by decide +kernel
theorem d_m_tell_177 : decode (mz_c M_m_tell) 177 = .ok (.getfield 110, 3) := by decide +kernel
theorem d_m_tell_180 : decode (mz_c M_m_tell) 180 = .ok (.iconst 1, 1) := by decide +kernel
theorem d_m_tell_181 : decode (mz_c M_m_tell) 181 = .ok (.if_icmp .ne 19, 3) := by decide +kernel
theorem d_m_tell_184 : decode (mz_c M_m_tell) 184 = .ok (.aload_n 0, 1) := by decide +kernel
theorem d_m_tell_185 : decode (mz_c M_m_tell) 185 = .ok (.getfield 46, 3) := by decide +kernel
theorem d_m_tell_188 : decode (mz_c M_m_tell) 188 = .ok (.bipush 6, 2) := by decide +kernel
theorem d_m_tell_190 : decode (mz_c M_m_tell) 190 = .ok (.iload_n 1, 1) := by decide +kernel
theorem d_m_tell_191 : decode (mz_c M_m_tell) 191 = .ok (.imul, 1) := by decide +kernel
theorem d_m_tell_192 : decode (mz_c M_m_tell) 192 = .ok (.iload_n 3, 1) := by decide +kernel
theorem d_m_tell_193 : decode (mz_c M_m_tell) 193 = .ok (.iadd, 1) := by decide +kernel
theorem d_m_tell_194 : decode (mz_c M_m_tell) 194 = .ok (.iload 4, 2) := by decide +kernel
theorem d_m_tell_196 : decode (mz_c M_m_tell) 196 = .ok (.iastore, 1) := by decide +kernel
theorem d_m_tell_197 : decode (mz_c M_m_tell) 197 = .ok (.goto 21, 3) := by decide +kernel
theorem d_m_tell_200 : decode (mz_c M_m_tell) 200 = .ok (.aload_n 0, 1) := by decide +kernel
theorem d_m_tell_201 : decode (mz_c M_m_tell) 201 = .ok (.getfield 49, 3) := by decide +kernel
theorem d_m_tell_204 : decode (mz_c M_m_tell) 204 = .ok (.bipush 24, 2) := by decide +kernel
theorem d_m_tell_206 : decode (mz_c M_m_tell) 206 = .ok (.iload_n 1, 1) := by decide +kernel
theorem d_m_tell_207 : decode (mz_c M_m_tell) 207 = .ok (.imul, 1) := by decide +kernel
theorem d_m_tell_208 : decode (mz_c M_m_tell) 208 = .ok (.bipush 6, 2) := by decide +kernel
theorem d_m_tell_210 : decode (mz_c M_m_tell) 210 = .ok (.iload_n 2, 1) := by decide +kernel
theorem d_m_tell_211 : decode (mz_c M_m_tell) 211 = .ok (.imul, 1) := by decide +kernel
theorem d_m_tell_212 : decode (mz_c M_m_tell) 212 = .ok (.iadd, 1) := by decide +kernel
theorem d_m_tell_213 : decode (mz_c M_m_tell) 213 = .ok (.iload_n 3, 1) := by decide +kernel
theorem d_m_tell_214 : decode (mz_c M_m_tell) 214 = .ok (.iadd, 1) := by decide +kernel
theorem d_m_tell_215 : decode (mz_c M_m_tell) 215 = .ok (.iload 4, 2) := by decide +kernel
theorem d_m_tell_217 : decode (mz_c M_m_tell) 217 = .ok (.iastore, 1) := by decide +kernel
theorem d_m_tell_218 : decode (mz_c M_m_tell) 218 = .ok (.return_, 1) := by decide +kernel
theorem d_m_round_0 : decode (mz_c M_m_round) 0 = .ok (.aload_n 0, 1) := by decide +kernel
theorem d_m_round_1 : decode (mz_c M_m_round) 1 = .ok (.aload_n 0, 1) := by decide +kernel
theorem d_m_round_2 : decode (mz_c M_m_round) 2 = .ok (.invokevirtual 143, 3) := by decide +kernel
theorem d_m_round_5 : decode (mz_c M_m_round) 5 = .ok (.aload_n 0, 1) := by decide +kernel
theorem d_m_round_6 : decode (mz_c M_m_round) 6 = .ok (.getfield 97, 3) := by decide +kernel
theorem d_m_round_9 : decode (mz_c M_m_round) 9 = .ok (.if_icmp .lt 11, 3) := by decide +kernel
theorem d_m_round_12 : decode (mz_c M_m_round) 12 = .ok (.aload_n 0, 1) := by decide +kernel
theorem d_m_round_13 : decode (mz_c M_m_round) 13 = .ok (.getfield 110, 3) := by decide +kernel
theorem d_m_round_16 : decode (mz_c M_m_round) 16 = .ok (.iconst 3, 1) := by decide +kernel
theorem d_m_round_17 : decode (mz_c M_m_round) 17 = .ok (.if_icmp .ne 7, 3) := by decide +kernel
theorem d_m_round_20 : decode (mz_c M_m_round) 20 = .ok (.iconst 1, 1) := by decide +kernel
theorem d_m_round_21 : decode (mz_c M_m_round) 21 = .ok (.goto 4, 3) := by decide +kernel
theorem d_m_round_24 : decode (mz_c M_m_round) 24 = .ok (.iconst 0, 1) := by decide +kernel
theorem d_m_round_25 : decode (mz_c M_m_round) 25 = .ok (.iconst 0, 1) := by decide +kernel
theorem d_m_round_26 : decode (mz_c M_m_round) 26 = .ok (.invokevirtual 119, 3) := by decide +kernel
theorem d_m_round_29 : decode (mz_c M_m_round) 29 = .ok (.ifCond .eq 5, 3) := by decide +kernel
theorem d_m_round_32 : decode (mz_c M_m_round) 32 = .ok (.iconst 0, 1) := by decide +kernel
theorem d_m_round_33 : decode (mz_c M_m_round) 33 = .ok (.ireturn, 1) := by decide +kernel
theorem d_m_round_34 : decode (mz_c M_m_round) 34 = .ok (.aload_n 0, 1) := by decide +kernel
theorem d_m_round_35 : decode (mz_c M_m_round) 35 = .ok (.dup, 1) := by decide +kernel
theorem d_m_round_36 : decode (mz_c M_m_round) 36 = .ok (.getfield 110, 3) := by decide +kernel
theorem d_m_round_39 : decode (mz_c M_m_round) 39 = .ok (.iconst 1, 1) := by decide +kernel
theorem d_m_round_40 : decode (mz_c M_m_round) 40 = .ok (.iadd, 1) := by decide +kernel
theorem d_m_round_41 : decode (mz_c M_m_round) 41 = .ok (.putfield 110, 3) := by decide +kernel
theorem d_m_round_44 : decode (mz_c M_m_round) 44 = .ok (.aload_n 0, 1) := by decide +kernel
theorem d_m_round_45 : decode (mz_c M_m_round) 45 = .ok (.getfield 110, 3) := by decide +kernel
theorem d_m_round_48 : decode (mz_c M_m_round) 48 = .ok (.iconst 3, 1) := by decide +kernel
theorem d_m_round_49 : decode (mz_c M_m_round) 49 = .ok (.if_icmp .ne 49, 3) := by decide +kernel
theorem d_m_round_52 : decode (mz_c M_m_round) 52 = .ok (.iconst 0, 1) := by decide +kernel
theorem d_m_round_53 : decode (mz_c M_m_round) 53 = .ok (.istore_n 1, 1) := by decide +kernel
theorem d_m_round_54 : decode (mz_c M_m_round) 54 = .ok (.iload_n 1, 1) := by decide +kernel
theorem d_m_round_55 : decode (mz_c M_m_round) 55 = .ok (.iconst 4, 1) := by decide +kernel
theorem d_m_round_56 : decode (mz_c M_m_round) 56 = .ok (.if_icmp .ge 42, 3) := by decide +kernel
theorem d_m_round_59 : decode (mz_c M_m_round) 59 = .ok (.iconst 0, 1) := by decide +kernel
theorem d_m_round_60 : decode (mz_c M_m_round) 60 = .ok (.istore_n 2, 1) := by decide +kernel
theorem d_m_round_61 : decode (mz_c M_m_round) 61 = .ok (.iload_n 2, 1) := by decide +kernel
theorem d_m_round_62 : decode (mz_c M_m_round) 62 = .ok (.aload_n 0, 1) := by decide +kernel
theorem d_m_round_63 : decode (mz_c M_m_round) 63 = .ok (.getfield 97, 3) := by decide +kernel
theorem d_m_round_66 : decode (mz_c M_m_round) 66 = .ok (.if_icmp .ge 26, 3) := by decide +kernel
theorem d_m_round_69 : decode (mz_c M_m_round) 69 = .ok (.aload_n 0, 1) := by decide +kernel
theorem d_m_round_70 : decode (mz_c M_m_round) 70 = .ok (.getfield 52, 3) := by decide +kernel
theorem d_m_round_73 : decode (mz_c M_m_round) 73 = .ok (.bipush 6, 2) := by decide +kernel
theorem d_m_round_75 : decode (mz_c M_m_round) 75 = .ok (.iload_n 1, 1) := by decide +kernel
theorem d_m_round_76 : decode (mz_c M_m_round) 76 = .ok (.imul, 1) := by decide +kernel
theorem d_m_round_77 : decode (mz_c M_m_round) 77 = .ok (.iload_n 2, 1) := by decide +kernel
theorem d_m_round_78 : decode (mz_c M_m_round) 78 = .ok (.iadd, 1) := by decide +kernel
theorem d_m_round_79 : decode (mz_c M_m_round) 79 = .ok (.aload_n 0, 1) := by decide +kernel
theorem d_m_round_80 : decode (mz_c M_m_round) 80 = .ok (.iload_n 1, 1) := by decide +kernel
theorem d_m_round_81 : decode (mz_c M_m_round) 81 = .ok (.iload_n 2, 1) := by decide +kernel
theorem d_m_round_82 : decode (mz_c M_m_round) 82 = .ok (.invokevirtual 147, 3) := by decide +kernel
theorem d_m_round_85 : decode (mz_c M_m_round) 85 = .ok (.iastore, 1) := by decide +kernel
theorem d_m_round_86 : decode (mz_c M_m_round) 86 = .ok (.iinc 2 1, 3) := by decide +kernel
theorem d_m_round_89 : decode (mz_c M_m_round) 89 = .ok (.goto (-28), 3) := by decide +kernel
theorem d_m_round_92 : decode (mz_c M_m_round) 92 = .ok (.iinc 1 1, 3) := by decide +kernel
theorem d_m_round_95 : decode (mz_c M_m_round) 95 = .ok (.goto (-41), 3) := by decide +kernel
theorem d_m_round_98 : decode (mz_c M_m_round) 98 = .ok (.aload_n 0, 1) := by decide +kernel
theorem d_m_round_99 : decode (mz_c M_m_round) 99 = .ok (.getfield 110, 3) := by decide +kernel
theorem d_m_round_102 : decode (mz_c M_m_round) 102 = .ok (.ireturn, 1) := by decide +kernel
theorem d_m_size_0 : decode (mz_c M_m_size) 0 = .ok (.iload_n 1, 1) := by decide +kernel
theorem d_m_size_1 : decode (mz_c M_m_size) 1 = .ok (.ifCond .ge 7, 3) := by decide +kernel
theorem d_m_size_4 : decode (mz_c M_m_size) 4 = .ok (.iconst 0, 1) := by decide +kernel
theorem d_m_size_5 : decode (mz_c M_m_size) 5 = .ok (.goto 9, 3) := by decide +kernel
theorem d_m_size_8 : decode (mz_c M_m_size) 8 = .ok (.aload_n 0, 1) := by decide +kernel
theorem d_m_size_9 : decode (mz_c M_m_size) 9 = .ok (.getfield 13, 3) := by decide +kernel
theorem d_m_size_12 : decode (mz_c M_m_size) 12 = .ok (.iload_n 1, 1) := by decide +kernel
theorem d_m_size_13 : decode (mz_c M_m_size) 13 = .ok (.iaload, 1) := by decide +kernel
theorem d_m_size_14 : decode (mz_c M_m_size) 14 = .ok (.ireturn, 1) := by decide +kernel
theorem d_m_alike_0 : decode (mz_c M_m_alike) 0 = .ok (.aload_n 0, 1) := by decide +kernel
theorem d_m_alike_1 : decode (mz_c M_m_alike) 1 = .ok (.iload_n 1, 1) := by decide +kernel
theorem d_m_alike_2 : decode (mz_c M_m_alike) 2 = .ok (.invokevirtual 151, 3) := by decide +kernel
theorem d_m_alike_5 : decode (mz_c M_m_alike) 5 = .ok (.aload_n 0, 1) := by decide +kernel
theorem d_m_alike_6 : decode (mz_c M_m_alike) 6 = .ok (.iload_n 2, 1) := by decide +kernel
theorem d_m_alike_7 : decode (mz_c M_m_alike) 7 = .ok (.invokevirtual 151, 3) := by decide +kernel
theorem d_m_alike_10 : decode (mz_c M_m_alike) 10 = .ok (.if_icmp .ne 7, 3) := by decide +kernel
theorem d_m_alike_13 : decode (mz_c M_m_alike) 13 = .ok (.iconst 1, 1) := by decide +kernel
theorem d_m_alike_14 : decode (mz_c M_m_alike) 14 = .ok (.goto 4, 3) := by decide +kernel
theorem d_m_alike_17 : decode (mz_c M_m_alike) 17 = .ok (.iconst 0, 1) := by decide +kernel
theorem d_m_alike_18 : decode (mz_c M_m_alike) 18 = .ok (.istore_n 3, 1) := by decide +kernel
theorem d_m_alike_19 : decode (mz_c M_m_alike) 19 = .ok (.iconst 0, 1) := by decide +kernel
theorem d_m_alike_20 : decode (mz_c M_m_alike) 20 = .ok (.istore 4, 2) := by decide +kernel
theorem d_m_alike_22 : decode (mz_c M_m_alike) 22 = .ok (.iload 4, 2) := by decide +kernel
theorem d_m_alike_24 : decode (mz_c M_m_alike) 24 = .ok (.aload_n 0, 1) := by decide +kernel
theorem d_m_alike_25 : decode (mz_c M_m_alike) 25 = .ok (.iload_n 1, 1) := by decide +kernel
theorem d_m_alike_26 : decode (mz_c M_m_alike) 26 = .ok (.invokevirtual 151, 3) := by decide +kernel
theorem d_m_alike_29 : decode (mz_c M_m_alike) 29 = .ok (.if_icmp .ge 122, 3) := by decide +kernel
theorem d_m_alike_32 : decode (mz_c M_m_alike) 32 = .ok (.iload_n 3, 1) := by decide +kernel
theorem d_m_alike_33 : decode (mz_c M_m_alike) 33 = .ok (.ifCond .eq 118, 3) := by decide +kernel
theorem d_m_alike_36 : decode (mz_c M_m_alike) 36 = .ok (.bipush 10, 2) := by decide +kernel
theorem d_m_alike_38 : decode (mz_c M_m_alike) 38 = .ok (.iload_n 1, 1) := by decide +kernel
theorem d_m_alike_39 : decode (mz_c M_m_alike) 39 = .ok (.imul, 1) := by decide +kernel
theorem d_m_alike_40 : decode (mz_c M_m_alike) 40 = .ok (.iload 4, 2) := by decide +kernel
theorem d_m_alike_42 : decode (mz_c M_m_alike) 42 = .ok (.iadd, 1) := by decide +kernel
theorem d_m_alike_43 : decode (mz_c M_m_alike) 43 = .ok (.istore 5, 2) := by decide +kernel
theorem d_m_alike_45 : decode (mz_c M_m_alike) 45 = .ok (.bipush 10, 2) := by decide +kernel
theorem d_m_alike_47 : decode (mz_c M_m_alike) 47 = .ok (.iload_n 2, 1) := by decide +kernel
theorem d_m_alike_48 : decode (mz_c M_m_alike) 48 = .ok (.imul, 1) := by decide +kernel
theorem d_m_alike_49 : decode (mz_c M_m_alike) 49 = .ok (.iload 4, 2) := by decide +kernel
theorem d_m_alike_51 : decode (mz_c M_m_alike) 51 = .ok (.iadd, 1) := by decide +kernel
theorem d_m_alike_52 : decode (mz_c M_m_alike) 52 = .ok (.istore 6, 2) := by decide +kernel
theorem d_m_alike_54 : decode (mz_c M_m_alike) 54 = .ok (.aload_n 0, 1) := by decide +kernel
theorem d_m_alike_55 : decode (mz_c M_m_alike) 55 = .ok (.getfield 20, 3) := by decide +kernel
theorem d_m_alike_58 : decode (mz_c M_m_alike) 58 = .ok (.iload 5, 2) := by decide +kernel
theorem d_m_alike_60 : decode (mz_c M_m_alike) 60 = .ok (.baload, 1) := by decide +kernel
theorem d_m_alike_61 : decode (mz_c M_m_alike) 61 = .ok (.aload_n 0, 1) := by decide +kernel
theorem d_m_alike_62 : decode (mz_c M_m_alike) 62 = .ok (.getfield 20, 3) := by decide +kernel
theorem d_m_alike_65 : decode (mz_c M_m_alike) 65 = .ok (.iload 6, 2) := by decide +kernel
theorem d_m_alike_67 : decode (mz_c M_m_alike) 67 = .ok (.baload, 1) := by decide +kernel
theorem d_m_alike_68 : decode (mz_c M_m_alike) 68 = .ok (.if_icmp .ne 75, 3) := by decide +kernel
theorem d_m_alike_71 : decode (mz_c M_m_alike) 71 = .ok (.aload_n 0, 1) := by decide +kernel
theorem d_m_alike_72 : decode (mz_c M_m_alike) 72 = .ok (.getfield 24, 3) := by decide +kernel
theorem d_m_alike_75 : decode (mz_c M_m_alike) 75 = .ok (.iload 5, 2) := by decide +kernel
theorem d_m_alike_77 : decode (mz_c M_m_alike) 77 = .ok (.iaload, 1) := by decide +kernel
theorem d_m_alike_78 : decode (mz_c M_m_alike) 78 = .ok (.aload_n 0, 1) := by decide +kernel
theorem d_m_alike_79 : decode (mz_c M_m_alike) 79 = .ok (.getfield 24, 3) := by decide +kernel
theorem d_m_alike_82 : decode (mz_c M_m_alike) 82 = .ok (.iload 6, 2) := by decide +kernel
theorem d_m_alike_84 : decode (mz_c M_m_alike) 84 = .ok (.iaload, 1) := by decide +kernel
theorem d_m_alike_85 : decode (mz_c M_m_alike) 85 = .ok (.if_icmp .ne 58, 3) := by decide +kernel
theorem d_m_alike_88 : decode (mz_c M_m_alike) 88 = .ok (.aload_n 0, 1) := by decide +kernel
theorem d_m_alike_89 : decode (mz_c M_m_alike) 89 = .ok (.getfield 27, 3) := by decide +kernel
theorem d_m_alike_92 : decode (mz_c M_m_alike) 92 = .ok (.iload 5, 2) := by decide +kernel
theorem d_m_alike_94 : decode (mz_c M_m_alike) 94 = .ok (.iaload, 1) := by decide +kernel
theorem d_m_alike_95 : decode (mz_c M_m_alike) 95 = .ok (.aload_n 0, 1) := by decide +kernel
theorem d_m_alike_96 : decode (mz_c M_m_alike) 96 = .ok (.getfield 27, 3) := by decide +kernel
theorem d_m_alike_99 : decode (mz_c M_m_alike) 99 = .ok (.iload 6, 2) := by decide +kernel
theorem d_m_alike_101 : decode (mz_c M_m_alike) 101 = .ok (.iaload, 1) := by decide +kernel
theorem d_m_alike_102 : decode (mz_c M_m_alike) 102 = .ok (.if_icmp .ne 41, 3) := by decide +kernel
theorem d_m_alike_105 : decode (mz_c M_m_alike) 105 = .ok (.aload_n 0, 1) := by decide +kernel
theorem d_m_alike_106 : decode (mz_c M_m_alike) 106 = .ok (.getfield 30, 3) := by decide +kernel
theorem d_m_alike_109 : decode (mz_c M_m_alike) 109 = .ok (.iload 5, 2) := by decide +kernel
theorem d_m_alike_111 : decode (mz_c M_m_alike) 111 = .ok (.iaload, 1) := by decide +kernel
theorem d_m_alike_112 : decode (mz_c M_m_alike) 112 = .ok (.aload_n 0, 1) := by decide +kernel
theorem d_m_alike_113 : decode (mz_c M_m_alike) 113 = .ok (.getfield 30, 3) := by decide +kernel
theorem d_m_alike_116 : decode (mz_c M_m_alike) 116 = .ok (.iload 6, 2) := by decide +kernel
theorem d_m_alike_118 : decode (mz_c M_m_alike) 118 = .ok (.iaload, 1) := by decide +kernel
theorem d_m_alike_119 : decode (mz_c M_m_alike) 119 = .ok (.if_icmp .ne 24, 3) := by decide +kernel
theorem d_m_alike_122 : decode (mz_c M_m_alike) 122 = .ok (.aload_n 0, 1) := by decide +kernel
theorem d_m_alike_123 : decode (mz_c M_m_alike) 123 = .ok (.getfield 33, 3) := by decide +kernel
theorem d_m_alike_126 : decode (mz_c M_m_alike) 126 = .ok (.iload 5, 2) := by decide +kernel
theorem d_m_alike_128 : decode (mz_c M_m_alike) 128 = .ok (.iaload, 1) := by decide +kernel
theorem d_m_alike_129 : decode (mz_c M_m_alike) 129 = .ok (.aload_n 0, 1) := by decide +kernel
theorem d_m_alike_130 : decode (mz_c M_m_alike) 130 = .ok (.getfield 33, 3) := by decide +kernel
theorem d_m_alike_133 : decode (mz_c M_m_alike) 133 = .ok (.iload 6, 2) := by decide +kernel
theorem d_m_alike_135 : decode (mz_c M_m_alike) 135 = .ok (.iaload, 1) := by decide +kernel
theorem d_m_alike_136 : decode (mz_c M_m_alike) 136 = .ok (.if_icmp .ne 7, 3) := by decide +kernel
theorem d_m_alike_139 : decode (mz_c M_m_alike) 139 = .ok (.iconst 1, 1) := by decide +kernel
theorem d_m_alike_140 : decode (mz_c M_m_alike) 140 = .ok (.goto 4, 3) := by decide +kernel
theorem d_m_alike_143 : decode (mz_c M_m_alike) 143 = .ok (.iconst 0, 1) := by decide +kernel
theorem d_m_alike_144 : decode (mz_c M_m_alike) 144 = .ok (.istore_n 3, 1) := by decide +kernel
theorem d_m_alike_145 : decode (mz_c M_m_alike) 145 = .ok (.iinc 4 1, 3) := by decide +kernel
theorem d_m_alike_148 : decode (mz_c M_m_alike) 148 = .ok (.goto (-126), 3) := by decide +kernel
theorem d_m_alike_151 : decode (mz_c M_m_alike) 151 = .ok (.iload_n 3, 1) := by decide +kernel
theorem d_m_alike_152 : decode (mz_c M_m_alike) 152 = .ok (.ireturn, 1) := by decide +kernel
theorem d_m_toldTo_0 : decode (mz_c M_m_toldTo) 0 = .ok (.iload_n 1, 1) := by decide +kernel
theorem d_m_toldTo_1 : decode (mz_c M_m_toldTo) 1 = .ok (.aload_n 0, 1) := by decide +kernel
theorem d_m_toldTo_2 : decode (mz_c M_m_toldTo) 2 = .ok (.getfield 42, 3) := by decide +kernel
theorem d_m_toldTo_5 : decode (mz_c M_m_toldTo) 5 = .ok (.if_icmp .ne 33, 3) := by decide +kernel
theorem d_m_toldTo_8 : decode (mz_c M_m_toldTo) 8 = .ok (.aload_n 0, 1) := by decide +kernel
theorem d_m_toldTo_9 : decode (mz_c M_m_toldTo) 9 = .ok (.getfield 46, 3) := by decide +kernel
theorem d_m_toldTo_12 : decode (mz_c M_m_toldTo) 12 = .ok (.bipush 6, 2) := by decide +kernel
theorem d_m_toldTo_14 : decode (mz_c M_m_toldTo) 14 = .ok (.iload_n 2, 1) := by decide +kernel
theorem d_m_toldTo_15 : decode (mz_c M_m_toldTo) 15 = .ok (.imul, 1) := by decide +kernel
theorem d_m_toldTo_16 : decode (mz_c M_m_toldTo) 16 = .ok (.iload_n 3, 1) := by decide +kernel
theorem d_m_toldTo_17 : decode (mz_c M_m_toldTo) 17 = .ok (.iadd, 1) := by decide +kernel
theorem d_m_toldTo_18 : decode (mz_c M_m_toldTo) 18 = .ok (.iaload, 1) := by decide +kernel
theorem d_m_toldTo_19 : decode (mz_c M_m_toldTo) 19 = .ok (.bipush (-2), 2) := by decide +kernel
theorem d_m_toldTo_21 : decode (mz_c M_m_toldTo) 21 = .ok (.if_icmp .eq 17, 3) := by decide +kernel
theorem d_m_toldTo_24 : decode (mz_c M_m_toldTo) 24 = .ok (.aload_n 0, 1) := by decide +kernel
theorem d_m_toldTo_25 : decode (mz_c M_m_toldTo) 25 = .ok (.getfield 46, 3) := by decide +kernel
theorem d_m_toldTo_28 : decode (mz_c M_m_toldTo) 28 = .ok (.bipush 6, 2) := by decide +kernel
theorem d_m_toldTo_30 : decode (mz_c M_m_toldTo) 30 = .ok (.iload_n 2, 1) := by decide +kernel
theorem d_m_toldTo_31 : decode (mz_c M_m_toldTo) 31 = .ok (.imul, 1) := by decide +kernel
theorem d_m_toldTo_32 : decode (mz_c M_m_toldTo) 32 = .ok (.iload_n 3, 1) := by decide +kernel
theorem d_m_toldTo_33 : decode (mz_c M_m_toldTo) 33 = .ok (.iadd, 1) := by decide +kernel
theorem d_m_toldTo_34 : decode (mz_c M_m_toldTo) 34 = .ok (.iaload, 1) := by decide +kernel
theorem d_m_toldTo_35 : decode (mz_c M_m_toldTo) 35 = .ok (.goto 8, 3) := by decide +kernel
theorem d_m_toldTo_38 : decode (mz_c M_m_toldTo) 38 = .ok (.iconst 4, 1) := by decide +kernel
theorem d_m_toldTo_39 : decode (mz_c M_m_toldTo) 39 = .ok (.iload_n 3, 1) := by decide +kernel
theorem d_m_toldTo_40 : decode (mz_c M_m_toldTo) 40 = .ok (.imul, 1) := by decide +kernel
theorem d_m_toldTo_41 : decode (mz_c M_m_toldTo) 41 = .ok (.iload_n 1, 1) := by decide +kernel
theorem d_m_toldTo_42 : decode (mz_c M_m_toldTo) 42 = .ok (.iadd, 1) := by decide +kernel
theorem d_m_toldTo_43 : decode (mz_c M_m_toldTo) 43 = .ok (.ireturn, 1) := by decide +kernel
theorem d_m_passedTo_0 : decode (mz_c M_m_passedTo) 0 = .ok (.bipush 24, 2) := by decide +kernel
theorem d_m_passedTo_2 : decode (mz_c M_m_passedTo) 2 = .ok (.iload_n 3, 1) := by decide +kernel
theorem d_m_passedTo_3 : decode (mz_c M_m_passedTo) 3 = .ok (.imul, 1) := by decide +kernel
theorem d_m_passedTo_4 : decode (mz_c M_m_passedTo) 4 = .ok (.bipush 6, 2) := by decide +kernel
theorem d_m_passedTo_6 : decode (mz_c M_m_passedTo) 6 = .ok (.iload_n 2, 1) := by decide +kernel
theorem d_m_passedTo_7 : decode (mz_c M_m_passedTo) 7 = .ok (.imul, 1) := by decide +kernel
theorem d_m_passedTo_8 : decode (mz_c M_m_passedTo) 8 = .ok (.iadd, 1) := by decide +kernel
theorem d_m_passedTo_9 : decode (mz_c M_m_passedTo) 9 = .ok (.iload 4, 2) := by decide +kernel
theorem d_m_passedTo_11 : decode (mz_c M_m_passedTo) 11 = .ok (.iadd, 1) := by decide +kernel
theorem d_m_passedTo_12 : decode (mz_c M_m_passedTo) 12 = .ok (.istore 5, 2) := by decide +kernel
theorem d_m_passedTo_14 : decode (mz_c M_m_passedTo) 14 = .ok (.iload_n 1, 1) := by decide +kernel
theorem d_m_passedTo_15 : decode (mz_c M_m_passedTo) 15 = .ok (.aload_n 0, 1) := by decide +kernel
theorem d_m_passedTo_16 : decode (mz_c M_m_passedTo) 16 = .ok (.getfield 42, 3) := by decide +kernel
theorem d_m_passedTo_19 : decode (mz_c M_m_passedTo) 19 = .ok (.if_icmp .ne 25, 3) := by decide +kernel
theorem d_m_passedTo_22 : decode (mz_c M_m_passedTo) 22 = .ok (.aload_n 0, 1) := by decide +kernel
theorem d_m_passedTo_23 : decode (mz_c M_m_passedTo) 23 = .ok (.getfield 49, 3) := by decide +kernel
theorem d_m_passedTo_26 : decode (mz_c M_m_passedTo) 26 = .ok (.iload 5, 2) := by decide +kernel
theorem d_m_passedTo_28 : decode (mz_c M_m_passedTo) 28 = .ok (.iaload, 1) := by decide +kernel
theorem d_m_passedTo_29 : decode (mz_c M_m_passedTo) 29 = .ok (.bipush (-2), 2) := by decide +kernel
theorem d_m_passedTo_31 : decode (mz_c M_m_passedTo) 31 = .ok (.if_icmp .eq 13, 3) := by decide +kernel
theorem d_m_passedTo_34 : decode (mz_c M_m_passedTo) 34 = .ok (.aload_n 0, 1) := by decide +kernel
theorem d_m_passedTo_35 : decode (mz_c M_m_passedTo) 35 = .ok (.getfield 49, 3) := by decide +kernel
theorem d_m_passedTo_38 : decode (mz_c M_m_passedTo) 38 = .ok (.iload 5, 2) := by decide +kernel
theorem d_m_passedTo_40 : decode (mz_c M_m_passedTo) 40 = .ok (.iaload, 1) := by decide +kernel
theorem d_m_passedTo_41 : decode (mz_c M_m_passedTo) 41 = .ok (.goto 11, 3) := by decide +kernel
theorem d_m_passedTo_44 : decode (mz_c M_m_passedTo) 44 = .ok (.aload_n 0, 1) := by decide +kernel
theorem d_m_passedTo_45 : decode (mz_c M_m_passedTo) 45 = .ok (.iload_n 2, 1) := by decide +kernel
theorem d_m_passedTo_46 : decode (mz_c M_m_passedTo) 46 = .ok (.iload_n 1, 1) := by decide +kernel
theorem d_m_passedTo_47 : decode (mz_c M_m_passedTo) 47 = .ok (.iload 4, 2) := by decide +kernel
theorem d_m_passedTo_49 : decode (mz_c M_m_passedTo) 49 = .ok (.invokevirtual 155, 3) := by decide +kernel
theorem d_m_passedTo_52 : decode (mz_c M_m_passedTo) 52 = .ok (.ireturn, 1) := by decide +kernel
theorem d_m_word_0 : decode (mz_c M_m_word) 0 = .ok (.iload_n 1, 1) := by decide +kernel
theorem d_m_word_1 : decode (mz_c M_m_word) 1 = .ok (.iload_n 2, 1) := by decide +kernel
theorem d_m_word_2 : decode (mz_c M_m_word) 2 = .ok (.if_icmp .ne 9, 3) := by decide +kernel
theorem d_m_word_5 : decode (mz_c M_m_word) 5 = .ok (.iconst 4, 1) := by decide +kernel
theorem d_m_word_6 : decode (mz_c M_m_word) 6 = .ok (.iload_n 3, 1) := by decide +kernel
theorem d_m_word_7 : decode (mz_c M_m_word) 7 = .ok (.imul, 1) := by decide +kernel
theorem d_m_word_8 : decode (mz_c M_m_word) 8 = .ok (.iload_n 2, 1) := by decide +kernel
theorem d_m_word_9 : decode (mz_c M_m_word) 9 = .ok (.iadd, 1) := by decide +kernel
theorem d_m_word_10 : decode (mz_c M_m_word) 10 = .ok (.ireturn, 1) := by decide +kernel
theorem d_m_word_11 : decode (mz_c M_m_word) 11 = .ok (.aload_n 0, 1) := by decide +kernel
theorem d_m_word_12 : decode (mz_c M_m_word) 12 = .ok (.iload_n 2, 1) := by decide +kernel
theorem d_m_word_13 : decode (mz_c M_m_word) 13 = .ok (.iload_n 1, 1) := by decide +kernel
theorem d_m_word_14 : decode (mz_c M_m_word) 14 = .ok (.iload_n 3, 1) := by decide +kernel
theorem d_m_word_15 : decode (mz_c M_m_word) 15 = .ok (.invokevirtual 155, 3) := by decide +kernel
theorem d_m_word_18 : decode (mz_c M_m_word) 18 = .ok (.istore 4, 2) := by decide +kernel
theorem d_m_word_20 : decode (mz_c M_m_word) 20 = .ok (.iconst (-1), 1) := by decide +kernel
theorem d_m_word_21 : decode (mz_c M_m_word) 21 = .ok (.istore 5, 2) := by decide +kernel
theorem d_m_word_23 : decode (mz_c M_m_word) 23 = .ok (.iconst (-1), 1) := by decide +kernel
theorem d_m_word_24 : decode (mz_c M_m_word) 24 = .ok (.istore 6, 2) := by decide +kernel
theorem d_m_word_26 : decode (mz_c M_m_word) 26 = .ok (.iconst 1, 1) := by decide +kernel
theorem d_m_word_27 : decode (mz_c M_m_word) 27 = .ok (.istore 7, 2) := by decide +kernel
theorem d_m_word_29 : decode (mz_c M_m_word) 29 = .ok (.iconst 0, 1) := by decide +kernel
theorem d_m_word_30 : decode (mz_c M_m_word) 30 = .ok (.istore 8, 2) := by decide +kernel
theorem d_m_word_32 : decode (mz_c M_m_word) 32 = .ok (.iload 8, 2) := by decide +kernel
theorem d_m_word_34 : decode (mz_c M_m_word) 34 = .ok (.iconst 4, 1) := by decide +kernel
theorem d_m_word_35 : decode (mz_c M_m_word) 35 = .ok (.if_icmp .ge 63, 3) := by decide +kernel
theorem d_m_word_38 : decode (mz_c M_m_word) 38 = .ok (.iload 8, 2) := by decide +kernel
theorem d_m_word_40 : decode (mz_c M_m_word) 40 = .ok (.iload_n 1, 1) := by decide +kernel
theorem d_m_word_41 : decode (mz_c M_m_word) 41 = .ok (.if_icmp .eq 51, 3) := by decide +kernel
theorem d_m_word_44 : decode (mz_c M_m_word) 44 = .ok (.iload 8, 2) := by decide +kernel
theorem d_m_word_46 : decode (mz_c M_m_word) 46 = .ok (.iload_n 2, 1) := by decide +kernel
theorem d_m_word_47 : decode (mz_c M_m_word) 47 = .ok (.if_icmp .eq 45, 3) := by decide +kernel
theorem d_m_word_50 : decode (mz_c M_m_word) 50 = .ok (.aload_n 0, 1) := by decide +kernel
theorem d_m_word_51 : decode (mz_c M_m_word) 51 = .ok (.iload 8, 2) := by decide +kernel
theorem d_m_word_53 : decode (mz_c M_m_word) 53 = .ok (.iload_n 2, 1) := by decide +kernel
theorem d_m_word_54 : decode (mz_c M_m_word) 54 = .ok (.iload_n 1, 1) := by decide +kernel
theorem d_m_word_55 : decode (mz_c M_m_word) 55 = .ok (.iload_n 3, 1) := by decide +kernel
theorem d_m_word_56 : decode (mz_c M_m_word) 56 = .ok (.invokevirtual 159, 3) := by decide +kernel
theorem d_m_word_59 : decode (mz_c M_m_word) 59 = .ok (.istore 9, 2) := by decide +kernel
theorem d_m_word_61 : decode (mz_c M_m_word) 61 = .ok (.iload 7, 2) := by decide +kernel
theorem d_m_word_63 : decode (mz_c M_m_word) 63 = .ok (.ifCond .eq 8, 3) := by decide +kernel
theorem d_m_word_66 : decode (mz_c M_m_word) 66 = .ok (.iload 9, 2) := by decide +kernel
theorem d_m_word_68 : decode (mz_c M_m_word) 68 = .ok (.goto 5, 3) := by decide +kernel
theorem d_m_word_71 : decode (mz_c M_m_word) 71 = .ok (.iload 5, 2) := by decide +kernel
theorem d_m_word_73 : decode (mz_c M_m_word) 73 = .ok (.istore 5, 2) := by decide +kernel
theorem d_m_word_75 : decode (mz_c M_m_word) 75 = .ok (.iload 7, 2) := by decide +kernel
theorem d_m_word_77 : decode (mz_c M_m_word) 77 = .ok (.ifCond .eq 8, 3) := by decide +kernel
theorem d_m_word_80 : decode (mz_c M_m_word) 80 = .ok (.iload 6, 2) := by decide +kernel
theorem d_m_word_82 : decode (mz_c M_m_word) 82 = .ok (.goto 5, 3) := by decide +kernel
theorem d_m_word_85 : decode (mz_c M_m_word) 85 = .ok (.iload 9, 2) := by decide +kernel
theorem d_m_word_87 : decode (mz_c M_m_word) 87 = .ok (.istore 6, 2) := by decide +kernel
theorem d_m_word_89 : decode (mz_c M_m_word) 89 = .ok (.iconst 0, 1) := by decide +kernel
theorem d_m_word_90 : decode (mz_c M_m_word) 90 = .ok (.istore 7, 2) := by decide +kernel
theorem d_m_word_92 : decode (mz_c M_m_word) 92 = .ok (.iinc 8 1, 3) := by decide +kernel
theorem d_m_word_95 : decode (mz_c M_m_word) 95 = .ok (.goto (-63), 3) := by decide +kernel
theorem d_m_word_98 : decode (mz_c M_m_word) 98 = .ok (.aload_n 0, 1) := by decide +kernel
theorem d_m_word_99 : decode (mz_c M_m_word) 99 = .ok (.iload 4, 2) := by decide +kernel
theorem d_m_word_101 : decode (mz_c M_m_word) 101 = .ok (.iload 5, 2) := by decide +kernel
theorem d_m_word_103 : decode (mz_c M_m_word) 103 = .ok (.invokevirtual 163, 3) := by decide +kernel
theorem d_m_word_106 : decode (mz_c M_m_word) 106 = .ok (.ifCond .ne 14, 3) := by decide +kernel
theorem d_m_word_109 : decode (mz_c M_m_word) 109 = .ok (.aload_n 0, 1) := by decide +kernel
theorem d_m_word_110 : decode (mz_c M_m_word) 110 = .ok (.iload 4, 2) := by decide +kernel
theorem d_m_word_112 : decode (mz_c M_m_word) 112 = .ok (.iload 6, 2) := by decide +kernel
theorem d_m_word_114 : decode (mz_c M_m_word) 114 = .ok (.invokevirtual 163, 3) := by decide +kernel
theorem d_m_word_117 : decode (mz_c M_m_word) 117 = .ok (.ifCond .eq 8, 3) := by decide +kernel
theorem d_m_word_120 : decode (mz_c M_m_word) 120 = .ok (.iload 4, 2) := by decide +kernel
theorem d_m_word_122 : decode (mz_c M_m_word) 122 = .ok (.goto 20, 3) := by decide +kernel
theorem d_m_word_125 : decode (mz_c M_m_word) 125 = .ok (.aload_n 0, 1) := by decide +kernel
theorem d_m_word_126 : decode (mz_c M_m_word) 126 = .ok (.iload 5, 2) := by decide +kernel
theorem d_m_word_128 : decode (mz_c M_m_word) 128 = .ok (.iload 6, 2) := by decide +kernel
theorem d_m_word_130 : decode (mz_c M_m_word) 130 = .ok (.invokevirtual 163, 3) := by decide +kernel
theorem d_m_word_133 : decode (mz_c M_m_word) 133 = .ok (.ifCond .eq 8, 3) := by decide +kernel
theorem d_m_word_136 : decode (mz_c M_m_word) 136 = .ok (.iload 5, 2) := by decide +kernel
theorem d_m_word_138 : decode (mz_c M_m_word) 138 = .ok (.goto 4, 3) := by decide +kernel
theorem d_m_word_141 : decode (mz_c M_m_word) 141 = .ok (.iconst (-1), 1) := by decide +kernel
theorem d_m_word_142 : decode (mz_c M_m_word) 142 = .ok (.ireturn, 1) := by decide +kernel
theorem d_m_vote_0 : decode (mz_c M_m_vote) 0 = .ok (.iconst (-1), 1) := by decide +kernel
theorem d_m_vote_1 : decode (mz_c M_m_vote) 1 = .ok (.istore_n 3, 1) := by decide +kernel
theorem d_m_vote_2 : decode (mz_c M_m_vote) 2 = .ok (.iconst 0, 1) := by decide +kernel
theorem d_m_vote_3 : decode (mz_c M_m_vote) 3 = .ok (.istore 4, 2) := by decide +kernel
theorem d_m_vote_5 : decode (mz_c M_m_vote) 5 = .ok (.iload 4, 2) := by decide +kernel
theorem d_m_vote_7 : decode (mz_c M_m_vote) 7 = .ok (.iconst 4, 1) := by decide +kernel
theorem d_m_vote_8 : decode (mz_c M_m_vote) 8 = .ok (.if_icmp .ge 77, 3) := by decide +kernel
theorem d_m_vote_11 : decode (mz_c M_m_vote) 11 = .ok (.aload_n 0, 1) := by decide +kernel
theorem d_m_vote_12 : decode (mz_c M_m_vote) 12 = .ok (.iload_n 1, 1) := by decide +kernel
theorem d_m_vote_13 : decode (mz_c M_m_vote) 13 = .ok (.iload 4, 2) := by decide +kernel
theorem d_m_vote_15 : decode (mz_c M_m_vote) 15 = .ok (.iload_n 2, 1) := by decide +kernel
theorem d_m_vote_16 : decode (mz_c M_m_vote) 16 = .ok (.invokevirtual 167, 3) := by decide +kernel
theorem d_m_vote_19 : decode (mz_c M_m_vote) 19 = .ok (.istore 5, 2) := by decide +kernel
theorem d_m_vote_21 : decode (mz_c M_m_vote) 21 = .ok (.iconst 0, 1) := by decide +kernel
theorem d_m_vote_22 : decode (mz_c M_m_vote) 22 = .ok (.istore 6, 2) := by decide +kernel
theorem d_m_vote_24 : decode (mz_c M_m_vote) 24 = .ok (.iconst 0, 1) := by decide +kernel
theorem d_m_vote_25 : decode (mz_c M_m_vote) 25 = .ok (.istore 7, 2) := by decide +kernel
theorem d_m_vote_27 : decode (mz_c M_m_vote) 27 = .ok (.iload 7, 2) := by decide +kernel
theorem d_m_vote_29 : decode (mz_c M_m_vote) 29 = .ok (.iconst 4, 1) := by decide +kernel
theorem d_m_vote_30 : decode (mz_c M_m_vote) 30 = .ok (.if_icmp .ge 36, 3) := by decide +kernel
theorem d_m_vote_33 : decode (mz_c M_m_vote) 33 = .ok (.iload 6, 2) := by decide +kernel
theorem d_m_vote_35 : decode (mz_c M_m_vote) 35 = .ok (.aload_n 0, 1) := by decide +kernel
theorem d_m_vote_36 : decode (mz_c M_m_vote) 36 = .ok (.iload 5, 2) := by decide +kernel
theorem d_m_vote_38 : decode (mz_c M_m_vote) 38 = .ok (.aload_n 0, 1) := by decide +kernel
theorem d_m_vote_39 : decode (mz_c M_m_vote) 39 = .ok (.iload_n 1, 1) := by decide +kernel
theorem d_m_vote_40 : decode (mz_c M_m_vote) 40 = .ok (.iload 7, 2) := by decide +kernel
theorem d_m_vote_42 : decode (mz_c M_m_vote) 42 = .ok (.iload_n 2, 1) := by decide +kernel
theorem d_m_vote_43 : decode (mz_c M_m_vote) 43 = .ok (.invokevirtual 167, 3) := by decide +kernel
theorem d_m_vote_46 : decode (mz_c M_m_vote) 46 = .ok (.invokevirtual 163, 3) := by decide +kernel
theorem d_m_vote_49 : decode (mz_c M_m_vote) 49 = .ok (.ifCond .eq 7, 3) := by decide +kernel
theorem d_m_vote_52 : decode (mz_c M_m_vote) 52 = .ok (.iconst 1, 1) := by decide +kernel
theorem d_m_vote_53 : decode (mz_c M_m_vote) 53 = .ok (.goto 4, 3) := by decide +kernel
theorem d_m_vote_56 : decode (mz_c M_m_vote) 56 = .ok (.iconst 0, 1) := by decide +kernel
theorem d_m_vote_57 : decode (mz_c M_m_vote) 57 = .ok (.iadd, 1) := by decide +kernel
theorem d_m_vote_58 : decode (mz_c M_m_vote) 58 = .ok (.istore 6, 2) := by decide +kernel
theorem d_m_vote_60 : decode (mz_c M_m_vote) 60 = .ok (.iinc 7 1, 3) := by decide +kernel
theorem d_m_vote_63 : decode (mz_c M_m_vote) 63 = .ok (.goto (-36), 3) := by decide +kernel
theorem d_m_vote_66 : decode (mz_c M_m_vote) 66 = .ok (.iload 6, 2) := by decide +kernel
theorem d_m_vote_68 : decode (mz_c M_m_vote) 68 = .ok (.iconst 2, 1) := by decide +kernel
theorem d_m_vote_69 : decode (mz_c M_m_vote) 69 = .ok (.if_icmp .le 8, 3) := by decide +kernel
theorem d_m_vote_72 : decode (mz_c M_m_vote) 72 = .ok (.iload 5, 2) := by decide +kernel
theorem d_m_vote_74 : decode (mz_c M_m_vote) 74 = .ok (.goto 4, 3) := by decide +kernel
theorem d_m_vote_77 : decode (mz_c M_m_vote) 77 = .ok (.iload_n 3, 1) := by decide +kernel
theorem d_m_vote_78 : decode (mz_c M_m_vote) 78 = .ok (.istore_n 3, 1) := by decide +kernel
theorem d_m_vote_79 : decode (mz_c M_m_vote) 79 = .ok (.iinc 4 1, 3) := by decide +kernel
theorem d_m_vote_82 : decode (mz_c M_m_vote) 82 = .ok (.goto (-77), 3) := by decide +kernel
theorem d_m_vote_85 : decode (mz_c M_m_vote) 85 = .ok (.iload_n 3, 1) := by decide +kernel
theorem d_m_vote_86 : decode (mz_c M_m_vote) 86 = .ok (.ireturn, 1) := by decide +kernel
theorem d_m_vector_0 : decode (mz_c M_m_vector) 0 = .ok (.aload_n 0, 1) := by decide +kernel
theorem d_m_vector_1 : decode (mz_c M_m_vector) 1 = .ok (.aload_n 0, 1) := by decide +kernel
theorem d_m_vector_2 : decode (mz_c M_m_vector) 2 = .ok (.getfield 110, 3) := by decide +kernel
theorem d_m_vector_5 : decode (mz_c M_m_vector) 5 = .ok (.iconst 3, 1) := by decide +kernel
theorem d_m_vector_6 : decode (mz_c M_m_vector) 6 = .ok (.if_icmp .ge 7, 3) := by decide +kernel
theorem d_m_vector_9 : decode (mz_c M_m_vector) 9 = .ok (.iconst 2, 1) := by decide +kernel
theorem d_m_vector_10 : decode (mz_c M_m_vector) 10 = .ok (.goto 41, 3) := by decide +kernel
theorem d_m_vector_13 : decode (mz_c M_m_vector) 13 = .ok (.iload_n 1, 1) := by decide +kernel
theorem d_m_vector_14 : decode (mz_c M_m_vector) 14 = .ok (.i2l, 1) := by decide +kernel
theorem d_m_vector_15 : decode (mz_c M_m_vector) 15 = .ok (.lconst 0, 1) := by decide +kernel
theorem d_m_vector_16 : decode (mz_c M_m_vector) 16 = .ok (.ldc2_w 125, 3) := by decide +kernel
theorem d_m_vector_19 : decode (mz_c M_m_vector) 19 = .ok (.invokestatic 106, 3) := by decide +kernel
theorem d_m_vector_22 : decode (mz_c M_m_vector) 22 = .ok (.ifCond .eq 24, 3) := by decide +kernel
theorem d_m_vector_25 : decode (mz_c M_m_vector) 25 = .ok (.aload_n 0, 1) := by decide +kernel
theorem d_m_vector_26 : decode (mz_c M_m_vector) 26 = .ok (.iload_n 2, 1) := by decide +kernel
theorem d_m_vector_27 : decode (mz_c M_m_vector) 27 = .ok (.invokevirtual 113, 3) := by decide +kernel
theorem d_m_vector_30 : decode (mz_c M_m_vector) 30 = .ok (.ifCond .eq 16, 3) := by decide +kernel
theorem d_m_vector_33 : decode (mz_c M_m_vector) 33 = .ok (.iload 4, 2) := by decide +kernel
theorem d_m_vector_35 : decode (mz_c M_m_vector) 35 = .ok (.i2l, 1) := by decide +kernel
theorem d_m_vector_36 : decode (mz_c M_m_vector) 36 = .ok (.lconst 0, 1) := by decide +kernel
theorem d_m_vector_37 : decode (mz_c M_m_vector) 37 = .ok (.ldc2_w 170, 3) := by decide +kernel
theorem d_m_vector_40 : decode (mz_c M_m_vector) 40 = .ok (.invokestatic 106, 3) := by decide +kernel
theorem d_m_vector_43 : decode (mz_c M_m_vector) 43 = .ok (.ifCond .ne 7, 3) := by decide +kernel
theorem d_m_vector_46 : decode (mz_c M_m_vector) 46 = .ok (.iconst 1, 1) := by decide +kernel
theorem d_m_vector_47 : decode (mz_c M_m_vector) 47 = .ok (.goto 4, 3) := by decide +kernel
theorem d_m_vector_50 : decode (mz_c M_m_vector) 50 = .ok (.iconst 0, 1) := by decide +kernel
theorem d_m_vector_51 : decode (mz_c M_m_vector) 51 = .ok (.putfield 103, 3) := by decide +kernel
theorem d_m_vector_54 : decode (mz_c M_m_vector) 54 = .ok (.aload_n 0, 1) := by decide +kernel
theorem d_m_vector_55 : decode (mz_c M_m_vector) 55 = .ok (.getfield 103, 3) := by decide +kernel
theorem d_m_vector_58 : decode (mz_c M_m_vector) 58 = .ok (.ifCond .le 5, 3) := by decide +kernel
theorem d_m_vector_61 : decode (mz_c M_m_vector) 61 = .ok (.iconst 0, 1) := by decide +kernel
theorem d_m_vector_62 : decode (mz_c M_m_vector) 62 = .ok (.ireturn, 1) := by decide +kernel
theorem d_m_vector_63 : decode (mz_c M_m_vector) 63 = .ok (.aload_n 0, 1) := by decide +kernel
theorem d_m_vector_64 : decode (mz_c M_m_vector) 64 = .ok (.getfield 52, 3) := by decide +kernel
theorem d_m_vector_67 : decode (mz_c M_m_vector) 67 = .ok (.bipush 6, 2) := by decide +kernel
theorem d_m_vector_69 : decode (mz_c M_m_vector) 69 = .ok (.iload_n 1, 1) := by decide +kernel
theorem d_m_vector_70 : decode (mz_c M_m_vector) 70 = .ok (.imul, 1) := by decide +kernel
theorem d_m_vector_71 : decode (mz_c M_m_vector) 71 = .ok (.iload_n 2, 1) := by decide +kernel
theorem d_m_vector_72 : decode (mz_c M_m_vector) 72 = .ok (.iadd, 1) := by decide +kernel
theorem d_m_vector_73 : decode (mz_c M_m_vector) 73 = .ok (.iaload, 1) := by decide +kernel
theorem d_m_vector_74 : decode (mz_c M_m_vector) 74 = .ok (.istore 5, 2) := by decide +kernel
theorem d_m_vector_76 : decode (mz_c M_m_vector) 76 = .ok (.iload 4, 2) := by decide +kernel
theorem d_m_vector_78 : decode (mz_c M_m_vector) 78 = .ok (.iconst 4, 1) := by decide +kernel
theorem d_m_vector_79 : decode (mz_c M_m_vector) 79 = .ok (.if_icmp .ne 10, 3) := by decide +kernel
theorem d_m_vector_82 : decode (mz_c M_m_vector) 82 = .ok (.aload_n 0, 1) := by decide +kernel
theorem d_m_vector_83 : decode (mz_c M_m_vector) 83 = .ok (.iload 5, 2) := by decide +kernel
theorem d_m_vector_85 : decode (mz_c M_m_vector) 85 = .ok (.invokevirtual 151, 3) := by decide +kernel
theorem d_m_vector_88 : decode (mz_c M_m_vector) 88 = .ok (.ireturn, 1) := by decide +kernel
theorem d_m_vector_89 : decode (mz_c M_m_vector) 89 = .ok (.aload_n 0, 1) := by decide +kernel
theorem d_m_vector_90 : decode (mz_c M_m_vector) 90 = .ok (.iload_n 3, 1) := by decide +kernel
theorem d_m_vector_91 : decode (mz_c M_m_vector) 91 = .ok (.i2l, 1) := by decide +kernel
theorem d_m_vector_92 : decode (mz_c M_m_vector) 92 = .ok (.lconst 0, 1) := by decide +kernel
theorem d_m_vector_93 : decode (mz_c M_m_vector) 93 = .ok (.aload_n 0, 1) := by decide +kernel
theorem d_m_vector_94 : decode (mz_c M_m_vector) 94 = .ok (.iload 5, 2) := by decide +kernel
theorem d_m_vector_96 : decode (mz_c M_m_vector) 96 = .ok (.invokevirtual 151, 3) := by decide +kernel
theorem d_m_vector_99 : decode (mz_c M_m_vector) 99 = .ok (.iconst 1, 1) := by decide +kernel
theorem d_m_vector_100 : decode (mz_c M_m_vector) 100 = .ok (.isub, 1) := by decide +kernel
theorem d_m_vector_101 : decode (mz_c M_m_vector) 101 = .ok (.i2l, 1) := by decide +kernel
theorem d_m_vector_102 : decode (mz_c M_m_vector) 102 = .ok (.invokestatic 106, 3) := by decide +kernel
theorem d_m_vector_105 : decode (mz_c M_m_vector) 105 = .ok (.ifCond .eq 7, 3) := by decide +kernel
theorem d_m_vector_108 : decode (mz_c M_m_vector) 108 = .ok (.iconst 0, 1) := by decide +kernel
theorem d_m_vector_109 : decode (mz_c M_m_vector) 109 = .ok (.goto 4, 3) := by decide +kernel
theorem d_m_vector_112 : decode (mz_c M_m_vector) 112 = .ok (.iconst 1, 1) := by decide +kernel
theorem d_m_vector_113 : decode (mz_c M_m_vector) 113 = .ok (.putfield 103, 3) := by decide +kernel
theorem d_m_vector_116 : decode (mz_c M_m_vector) 116 = .ok (.aload_n 0, 1) := by decide +kernel
theorem d_m_vector_117 : decode (mz_c M_m_vector) 117 = .ok (.getfield 103, 3) := by decide +kernel
theorem d_m_vector_120 : decode (mz_c M_m_vector) 120 = .ok (.ifCond .le 5, 3) := by decide +kernel
theorem d_m_vector_123 : decode (mz_c M_m_vector) 123 = .ok (.iconst 0, 1) := by decide +kernel
theorem d_m_vector_124 : decode (mz_c M_m_vector) 124 = .ok (.ireturn, 1) := by decide +kernel
theorem d_m_vector_125 : decode (mz_c M_m_vector) 125 = .ok (.bipush 10, 2) := by decide +kernel
theorem d_m_vector_127 : decode (mz_c M_m_vector) 127 = .ok (.iload 5, 2) := by decide +kernel
theorem d_m_vector_129 : decode (mz_c M_m_vector) 129 = .ok (.imul, 1) := by decide +kernel
theorem d_m_vector_130 : decode (mz_c M_m_vector) 130 = .ok (.iload_n 3, 1) := by decide +kernel
theorem d_m_vector_131 : decode (mz_c M_m_vector) 131 = .ok (.iadd, 1) := by decide +kernel
theorem d_m_vector_132 : decode (mz_c M_m_vector) 132 = .ok (.istore 6, 2) := by decide +kernel
theorem d_m_vector_134 : decode (mz_c M_m_vector) 134 = .ok (.iload 4, 2) := by decide +kernel
theorem d_m_vector_136 : decode (mz_c M_m_vector) 136 = .ok (.ifCond .ne 30, 3) := by decide +kernel
theorem d_m_vector_139 : decode (mz_c M_m_vector) 139 = .ok (.aload_n 0, 1) := by decide +kernel
theorem d_m_vector_140 : decode (mz_c M_m_vector) 140 = .ok (.getfield 24, 3) := by decide +kernel
theorem d_m_vector_143 : decode (mz_c M_m_vector) 143 = .ok (.iload 6, 2) := by decide +kernel
theorem d_m_vector_145 : decode (mz_c M_m_vector) 145 = .ok (.iaload, 1) := by decide +kernel
theorem d_m_vector_146 : decode (mz_c M_m_vector) 146 = .ok (.aload_n 0, 1) := by decide +kernel
theorem d_m_vector_147 : decode (mz_c M_m_vector) 147 = .ok (.getfield 20, 3) := by decide +kernel
theorem d_m_vector_150 : decode (mz_c M_m_vector) 150 = .ok (.iload 6, 2) := by decide +kernel
theorem d_m_vector_152 : decode (mz_c M_m_vector) 152 = .ok (.baload, 1) := by decide +kernel
theorem d_m_vector_153 : decode (mz_c M_m_vector) 153 = .ok (.ifCond .eq 8, 3) := by decide +kernel
theorem d_m_vector_156 : decode (mz_c M_m_vector) 156 = .ok (.bipush 100, 2) := by decide +kernel
theorem d_m_vector_158 : decode (mz_c M_m_vector) 158 = .ok (.goto 4, 3) := by decide +kernel
theorem d_m_vector_161 : decode (mz_c M_m_vector) 161 = .ok (.iconst 0, 1) := by decide +kernel
theorem d_m_vector_162 : decode (mz_c M_m_vector) 162 = .ok (.iadd, 1) := by decide +kernel
theorem d_m_vector_163 : decode (mz_c M_m_vector) 163 = .ok (.goto 42, 3) := by decide +kernel
theorem d_m_vector_166 : decode (mz_c M_m_vector) 166 = .ok (.iload 4, 2) := by decide +kernel
theorem d_m_vector_168 : decode (mz_c M_m_vector) 168 = .ok (.iconst 1, 1) := by decide +kernel
theorem d_m_vector_169 : decode (mz_c M_m_vector) 169 = .ok (.if_icmp .ne 13, 3) := by decide +kernel
theorem d_m_vector_172 : decode (mz_c M_m_vector) 172 = .ok (.aload_n 0, 1) := by decide +kernel
theorem d_m_vector_173 : decode (mz_c M_m_vector) 173 = .ok (.getfield 27, 3) := by decide +kernel
theorem d_m_vector_176 : decode (mz_c M_m_vector) 176 = .ok (.iload 6, 2) := by decide +kernel
theorem d_m_vector_178 : decode (mz_c M_m_vector) 178 = .ok (.iaload, 1) := by decide +kernel
theorem d_m_vector_179 : decode (mz_c M_m_vector) 179 = .ok (.goto 26, 3) := by decide +kernel
theorem d_m_vector_182 : decode (mz_c M_m_vector) 182 = .ok (.iload 4, 2) := by decide +kernel
theorem d_m_vector_184 : decode (mz_c M_m_vector) 184 = .ok (.iconst 2, 1) := by decide +kernel
theorem d_m_vector_185 : decode (mz_c M_m_vector) 185 = .ok (.if_icmp .ne 13, 3) := by decide +kernel
theorem d_m_vector_188 : decode (mz_c M_m_vector) 188 = .ok (.aload_n 0, 1) := by decide +kernel
theorem d_m_vector_189 : decode (mz_c M_m_vector) 189 = .ok (.getfield 30, 3) := by decide +kernel
theorem d_m_vector_192 : decode (mz_c M_m_vector) 192 = .ok (.iload 6, 2) := by decide +kernel
theorem d_m_vector_194 : decode (mz_c M_m_vector) 194 = .ok (.iaload, 1) := by decide +kernel
theorem d_m_vector_195 : decode (mz_c M_m_vector) 195 = .ok (.goto 10, 3) := by decide +kernel
theorem d_m_vector_198 : decode (mz_c M_m_vector) 198 = .ok (.aload_n 0, 1) := by decide +kernel
theorem d_m_vector_199 : decode (mz_c M_m_vector) 199 = .ok (.getfield 33, 3) := by decide +kernel
theorem d_m_vector_202 : decode (mz_c M_m_vector) 202 = .ok (.iload 6, 2) := by decide +kernel
theorem d_m_vector_204 : decode (mz_c M_m_vector) 204 = .ok (.iaload, 1) := by decide +kernel
theorem d_m_vector_205 : decode (mz_c M_m_vector) 205 = .ok (.ireturn, 1) := by decide +kernel
theorem d_m_gather_0 : decode (mz_c M_m_gather) 0 = .ok (.aload_n 0, 1) := by decide +kernel
theorem d_m_gather_1 : decode (mz_c M_m_gather) 1 = .ok (.iconst 0, 1) := by decide +kernel
theorem d_m_gather_2 : decode (mz_c M_m_gather) 2 = .ok (.putfield 172, 3) := by decide +kernel
theorem d_m_gather_5 : decode (mz_c M_m_gather) 5 = .ok (.aload_n 0, 1) := by decide +kernel
theorem d_m_gather_6 : decode (mz_c M_m_gather) 6 = .ok (.iconst 0, 1) := by decide +kernel
theorem d_m_gather_7 : decode (mz_c M_m_gather) 7 = .ok (.putfield 175, 3) := by decide +kernel
theorem d_m_gather_10 : decode (mz_c M_m_gather) 10 = .ok (.iconst 0, 1) := by decide +kernel
theorem d_m_gather_11 : decode (mz_c M_m_gather) 11 = .ok (.istore_n 2, 1) := by decide +kernel
theorem d_m_gather_12 : decode (mz_c M_m_gather) 12 = .ok (.iload_n 2, 1) := by decide +kernel
theorem d_m_gather_13 : decode (mz_c M_m_gather) 13 = .ok (.aload_n 0, 1) := by decide +kernel
theorem d_m_gather_14 : decode (mz_c M_m_gather) 14 = .ok (.getfield 97, 3) := by decide +kernel
theorem d_m_gather_17 : decode (mz_c M_m_gather) 17 = .ok (.if_icmp .ge 155, 3) := by decide +kernel
theorem d_m_gather_20 : decode (mz_c M_m_gather) 20 = .ok (.aload_n 0, 1) := by decide +kernel
theorem d_m_gather_21 : decode (mz_c M_m_gather) 21 = .ok (.getfield 52, 3) := by decide +kernel
theorem d_m_gather_24 : decode (mz_c M_m_gather) 24 = .ok (.bipush 6, 2) := by decide +kernel
theorem d_m_gather_26 : decode (mz_c M_m_gather) 26 = .ok (.iload_n 1, 1) := by decide +kernel
theorem d_m_gather_27 : decode (mz_c M_m_gather) 27 = .ok (.imul, 1) := by decide +kernel
theorem d_m_gather_28 : decode (mz_c M_m_gather) 28 = .ok (.iload_n 2, 1) := by decide +kernel
theorem d_m_gather_29 : decode (mz_c M_m_gather) 29 = .ok (.iadd, 1) := by decide +kernel
theorem d_m_gather_30 : decode (mz_c M_m_gather) 30 = .ok (.iaload, 1) := by decide +kernel
theorem d_m_gather_31 : decode (mz_c M_m_gather) 31 = .ok (.istore_n 3, 1) := by decide +kernel
theorem d_m_gather_32 : decode (mz_c M_m_gather) 32 = .ok (.iconst 0, 1) := by decide +kernel
theorem d_m_gather_33 : decode (mz_c M_m_gather) 33 = .ok (.istore 4, 2) := by decide +kernel
theorem d_m_gather_35 : decode (mz_c M_m_gather) 35 = .ok (.iload 4, 2) := by decide +kernel
theorem d_m_gather_37 : decode (mz_c M_m_gather) 37 = .ok (.aload_n 0, 1) := by decide +kernel
theorem d_m_gather_38 : decode (mz_c M_m_gather) 38 = .ok (.iload_n 3, 1) := by decide +kernel
theorem d_m_gather_39 : decode (mz_c M_m_gather) 39 = .ok (.invokevirtual 151, 3) := by decide +kernel
theorem d_m_gather_42 : decode (mz_c M_m_gather) 42 = .ok (.if_icmp .ge 124, 3) := by decide +kernel
theorem d_m_gather_45 : decode (mz_c M_m_gather) 45 = .ok (.bipush 10, 2) := by decide +kernel
theorem d_m_gather_47 : decode (mz_c M_m_gather) 47 = .ok (.iload_n 3, 1) := by decide +kernel
theorem d_m_gather_48 : decode (mz_c M_m_gather) 48 = .ok (.imul, 1) := by decide +kernel
theorem d_m_gather_49 : decode (mz_c M_m_gather) 49 = .ok (.iload 4, 2) := by decide +kernel
theorem d_m_gather_51 : decode (mz_c M_m_gather) 51 = .ok (.iadd, 1) := by decide +kernel
theorem d_m_gather_52 : decode (mz_c M_m_gather) 52 = .ok (.istore 5, 2) := by decide +kernel
theorem d_m_gather_54 : decode (mz_c M_m_gather) 54 = .ok (.aload_n 0, 1) := by decide +kernel
theorem d_m_gather_55 : decode (mz_c M_m_gather) 55 = .ok (.getfield 20, 3) := by decide +kernel
theorem d_m_gather_58 : decode (mz_c M_m_gather) 58 = .ok (.iload 5, 2) := by decide +kernel
theorem d_m_gather_60 : decode (mz_c M_m_gather) 60 = .ok (.baload, 1) := by decide +kernel
theorem d_m_gather_61 : decode (mz_c M_m_gather) 61 = .ok (.ifCond .ne 48, 3) := by decide +kernel
theorem d_m_gather_64 : decode (mz_c M_m_gather) 64 = .ok (.aload_n 0, 1) := by decide +kernel
theorem d_m_gather_65 : decode (mz_c M_m_gather) 65 = .ok (.getfield 73, 3) := by decide +kernel
theorem d_m_gather_68 : decode (mz_c M_m_gather) 68 = .ok (.aload_n 0, 1) := by decide +kernel
theorem d_m_gather_69 : decode (mz_c M_m_gather) 69 = .ok (.getfield 172, 3) := by decide +kernel
theorem d_m_gather_72 : decode (mz_c M_m_gather) 72 = .ok (.iload 5, 2) := by decide +kernel
theorem d_m_gather_74 : decode (mz_c M_m_gather) 74 = .ok (.iastore, 1) := by decide +kernel
theorem d_m_gather_75 : decode (mz_c M_m_gather) 75 = .ok (.aload_n 0, 1) := by decide +kernel
theorem d_m_gather_76 : decode (mz_c M_m_gather) 76 = .ok (.getfield 76, 3) := by decide +kernel
theorem d_m_gather_79 : decode (mz_c M_m_gather) 79 = .ok (.aload_n 0, 1) := by decide +kernel
theorem d_m_gather_80 : decode (mz_c M_m_gather) 80 = .ok (.getfield 172, 3) := by decide +kernel
theorem d_m_gather_83 : decode (mz_c M_m_gather) 83 = .ok (.bipush 60, 2) := by decide +kernel
theorem d_m_gather_85 : decode (mz_c M_m_gather) 85 = .ok (.iload_n 1, 1) := by decide +kernel
theorem d_m_gather_86 : decode (mz_c M_m_gather) 86 = .ok (.imul, 1) := by decide +kernel
theorem d_m_gather_87 : decode (mz_c M_m_gather) 87 = .ok (.bipush 10, 2) := by decide +kernel
theorem d_m_gather_89 : decode (mz_c M_m_gather) 89 = .ok (.iload_n 2, 1) := by decide +kernel
theorem d_m_gather_90 : decode (mz_c M_m_gather) 90 = .ok (.imul, 1) := by decide +kernel
theorem d_m_gather_91 : decode (mz_c M_m_gather) 91 = .ok (.iadd, 1) := by decide +kernel
theorem d_m_gather_92 : decode (mz_c M_m_gather) 92 = .ok (.iload 4, 2) := by decide +kernel
theorem d_m_gather_94 : decode (mz_c M_m_gather) 94 = .ok (.iadd, 1) := by decide +kernel
theorem d_m_gather_95 : decode (mz_c M_m_gather) 95 = .ok (.iastore, 1) := by decide +kernel
theorem d_m_gather_96 : decode (mz_c M_m_gather) 96 = .ok (.aload_n 0, 1) := by decide +kernel
theorem d_m_gather_97 : decode (mz_c M_m_gather) 97 = .ok (.dup, 1) := by decide +kernel
theorem d_m_gather_98 : decode (mz_c M_m_gather) 98 = .ok (.getfield 172, 3) := by decide +kernel
theorem d_m_gather_101 : decode (mz_c M_m_gather) 101 = .ok (.iconst 1, 1) := by decide +kernel
theorem d_m_gather_102 : decode (mz_c M_m_gather) 102 = .ok (.iadd, 1) := by decide +kernel
theorem d_m_gather_103 : decode (mz_c M_m_gather) 103 = .ok (.putfield 172, 3) := by decide +kernel
theorem d_m_gather_106 : decode (mz_c M_m_gather) 106 = .ok (.goto 54, 3) := by decide +kernel
theorem d_m_gather_109 : decode (mz_c M_m_gather) 109 = .ok (.aload_n 0, 1) := by decide +kernel
theorem d_m_gather_110 : decode (mz_c M_m_gather) 110 = .ok (.getfield 175, 3) := by decide +kernel
theorem d_m_gather_113 : decode (mz_c M_m_gather) 113 = .ok (.bipush 8, 2) := by decide +kernel
theorem d_m_gather_115 : decode (mz_c M_m_gather) 115 = .ok (.if_icmp .ge 45, 3) := by decide +kernel
theorem d_m_gather_118 : decode (mz_c M_m_gather) 118 = .ok (.aload_n 0, 1) := by decide +kernel
theorem d_m_gather_119 : decode (mz_c M_m_gather) 119 = .ok (.getfield 79, 3) := by decide +kernel
theorem d_m_gather_122 : decode (mz_c M_m_gather) 122 = .ok (.aload_n 0, 1) := by decide +kernel
theorem d_m_gather_123 : decode (mz_c M_m_gather) 123 = .ok (.getfield 175, 3) := by decide +kernel
theorem d_m_gather_126 : decode (mz_c M_m_gather) 126 = .ok (.iload 5, 2) := by decide +kernel
theorem d_m_gather_128 : decode (mz_c M_m_gather) 128 = .ok (.iastore, 1) := by decide +kernel
theorem d_m_gather_129 : decode (mz_c M_m_gather) 129 = .ok (.aload_n 0, 1) := by decide +kernel
theorem d_m_gather_130 : decode (mz_c M_m_gather) 130 = .ok (.getfield 82, 3) := by decide +kernel
theorem d_m_gather_133 : decode (mz_c M_m_gather) 133 = .ok (.aload_n 0, 1) := by decide +kernel
theorem d_m_gather_134 : decode (mz_c M_m_gather) 134 = .ok (.getfield 175, 3) := by decide +kernel
theorem d_m_gather_137 : decode (mz_c M_m_gather) 137 = .ok (.bipush 60, 2) := by decide +kernel
theorem d_m_gather_139 : decode (mz_c M_m_gather) 139 = .ok (.iload_n 1, 1) := by decide +kernel
theorem d_m_gather_140 : decode (mz_c M_m_gather) 140 = .ok (.imul, 1) := by decide +kernel
theorem d_m_gather_141 : decode (mz_c M_m_gather) 141 = .ok (.bipush 10, 2) := by decide +kernel
theorem d_m_gather_143 : decode (mz_c M_m_gather) 143 = .ok (.iload_n 2, 1) := by decide +kernel
theorem d_m_gather_144 : decode (mz_c M_m_gather) 144 = .ok (.imul, 1) := by decide +kernel
theorem d_m_gather_145 : decode (mz_c M_m_gather) 145 = .ok (.iadd, 1) := by decide +kernel
theorem d_m_gather_146 : decode (mz_c M_m_gather) 146 = .ok (.iload 4, 2) := by decide +kernel
theorem d_m_gather_148 : decode (mz_c M_m_gather) 148 = .ok (.iadd, 1) := by decide +kernel
theorem d_m_gather_149 : decode (mz_c M_m_gather) 149 = .ok (.iastore, 1) := by decide +kernel
theorem d_m_gather_150 : decode (mz_c M_m_gather) 150 = .ok (.aload_n 0, 1) := by decide +kernel
theorem d_m_gather_151 : decode (mz_c M_m_gather) 151 = .ok (.dup, 1) := by decide +kernel
theorem d_m_gather_152 : decode (mz_c M_m_gather) 152 = .ok (.getfield 175, 3) := by decide +kernel
theorem d_m_gather_155 : decode (mz_c M_m_gather) 155 = .ok (.iconst 1, 1) := by decide +kernel
theorem d_m_gather_156 : decode (mz_c M_m_gather) 156 = .ok (.iadd, 1) := by decide +kernel
theorem d_m_gather_157 : decode (mz_c M_m_gather) 157 = .ok (.putfield 175, 3) := by decide +kernel
theorem d_m_gather_160 : decode (mz_c M_m_gather) 160 = .ok (.iinc 4 1, 3) := by decide +kernel
theorem d_m_gather_163 : decode (mz_c M_m_gather) 163 = .ok (.goto (-128), 3) := by decide +kernel
theorem d_m_gather_166 : decode (mz_c M_m_gather) 166 = .ok (.iinc 2 1, 3) := by decide +kernel
theorem d_m_gather_169 : decode (mz_c M_m_gather) 169 = .ok (.goto (-157), 3) := by decide +kernel
theorem d_m_gather_172 : decode (mz_c M_m_gather) 172 = .ok (.return_, 1) := by decide +kernel
theorem d_m_covers_0 : decode (mz_c M_m_covers) 0 = .ok (.iload_n 0, 1) := by decide +kernel
theorem d_m_covers_1 : decode (mz_c M_m_covers) 1 = .ok (.iconst 4, 1) := by decide +kernel
theorem d_m_covers_2 : decode (mz_c M_m_covers) 2 = .ok (.idiv, 1) := by decide +kernel
theorem d_m_covers_3 : decode (mz_c M_m_covers) 3 = .ok (.iload_n 1, 1) := by decide +kernel
theorem d_m_covers_4 : decode (mz_c M_m_covers) 4 = .ok (.if_icmp .gt 14, 3) := by decide +kernel
theorem d_m_covers_7 : decode (mz_c M_m_covers) 7 = .ok (.iload_n 1, 1) := by decide +kernel
theorem d_m_covers_8 : decode (mz_c M_m_covers) 8 = .ok (.iload_n 0, 1) := by decide +kernel
theorem d_m_covers_9 : decode (mz_c M_m_covers) 9 = .ok (.iconst 4, 1) := by decide +kernel
theorem d_m_covers_10 : decode (mz_c M_m_covers) 10 = .ok (.irem, 1) := by decide +kernel
theorem d_m_covers_11 : decode (mz_c M_m_covers) 11 = .ok (.if_icmp .gt 7, 3) := by decide +kernel
theorem d_m_covers_14 : decode (mz_c M_m_covers) 14 = .ok (.iconst 1, 1) := by decide +kernel
theorem d_m_covers_15 : decode (mz_c M_m_covers) 15 = .ok (.goto 4, 3) := by decide +kernel
theorem d_m_covers_18 : decode (mz_c M_m_covers) 18 = .ok (.iconst 0, 1) := by decide +kernel
theorem d_m_covers_19 : decode (mz_c M_m_covers) 19 = .ok (.ireturn, 1) := by decide +kernel
theorem d_m_volume_0 : decode (mz_c M_m_volume) 0 = .ok (.iconst 0, 1) := by decide +kernel
theorem d_m_volume_1 : decode (mz_c M_m_volume) 1 = .ok (.istore 6, 2) := by decide +kernel
theorem d_m_volume_3 : decode (mz_c M_m_volume) 3 = .ok (.iconst 0, 1) := by decide +kernel
theorem d_m_volume_4 : decode (mz_c M_m_volume) 4 = .ok (.istore 7, 2) := by decide +kernel
theorem d_m_volume_6 : decode (mz_c M_m_volume) 6 = .ok (.iload 7, 2) := by decide +kernel
theorem d_m_volume_8 : decode (mz_c M_m_volume) 8 = .ok (.aload_n 0, 1) := by decide +kernel
theorem d_m_volume_9 : decode (mz_c M_m_volume) 9 = .ok (.getfield 175, 3) := by decide +kernel
theorem d_m_volume_12 : decode (mz_c M_m_volume) 12 = .ok (.if_icmp .ge 70, 3) := by decide +kernel
theorem d_m_volume_15 : decode (mz_c M_m_volume) 15 = .ok (.aload_n 0, 1) := by decide +kernel
theorem d_m_volume_16 : decode (mz_c M_m_volume) 16 = .ok (.getfield 79, 3) := by decide +kernel
theorem d_m_volume_19 : decode (mz_c M_m_volume) 19 = .ok (.iload 7, 2) := by decide +kernel
theorem d_m_volume_21 : decode (mz_c M_m_volume) 21 = .ok (.iaload, 1) := by decide +kernel
theorem d_m_volume_22 : decode (mz_c M_m_volume) 22 = .ok (.istore 8, 2) := by decide +kernel
theorem d_m_volume_24 : decode (mz_c M_m_volume) 24 = .ok (.iload 6, 2) := by decide +kernel
theorem d_m_volume_26 : decode (mz_c M_m_volume) 26 = .ok (.iload_n 1, 1) := by decide +kernel
theorem d_m_volume_27 : decode (mz_c M_m_volume) 27 = .ok (.iload 7, 2) := by decide +kernel
theorem d_m_volume_29 : decode (mz_c M_m_volume) 29 = .ok (.ishr, 1) := by decide +kernel
theorem d_m_volume_30 : decode (mz_c M_m_volume) 30 = .ok (.iconst 1, 1) := by decide +kernel
theorem d_m_volume_31 : decode (mz_c M_m_volume) 31 = .ok (.iand, 1) := by decide +kernel
theorem d_m_volume_32 : decode (mz_c M_m_volume) 32 = .ok (.iconst 1, 1) := by decide +kernel
theorem d_m_volume_33 : decode (mz_c M_m_volume) 33 = .ok (.if_icmp .ne 39, 3) := by decide +kernel
theorem d_m_volume_36 : decode (mz_c M_m_volume) 36 = .ok (.aload_n 0, 1) := by decide +kernel
theorem d_m_volume_37 : decode (mz_c M_m_volume) 37 = .ok (.getfield 27, 3) := by decide +kernel
theorem d_m_volume_40 : decode (mz_c M_m_volume) 40 = .ok (.iload 8, 2) := by decide +kernel
theorem d_m_volume_42 : decode (mz_c M_m_volume) 42 = .ok (.iaload, 1) := by decide +kernel
theorem d_m_volume_43 : decode (mz_c M_m_volume) 43 = .ok (.iload 4, 2) := by decide +kernel
theorem d_m_volume_45 : decode (mz_c M_m_volume) 45 = .ok (.if_icmp .ne 27, 3) := by decide +kernel
theorem d_m_volume_48 : decode (mz_c M_m_volume) 48 = .ok (.aload_n 0, 1) := by decide +kernel
theorem d_m_volume_49 : decode (mz_c M_m_volume) 49 = .ok (.getfield 24, 3) := by decide +kernel
theorem d_m_volume_52 : decode (mz_c M_m_volume) 52 = .ok (.iload 8, 2) := by decide +kernel
theorem d_m_volume_54 : decode (mz_c M_m_volume) 54 = .ok (.iaload, 1) := by decide +kernel
theorem d_m_volume_55 : decode (mz_c M_m_volume) 55 = .ok (.iload_n 2, 1) := by decide +kernel
theorem d_m_volume_56 : decode (mz_c M_m_volume) 56 = .ok (.invokestatic 178, 3) := by decide +kernel
theorem d_m_volume_59 : decode (mz_c M_m_volume) 59 = .ok (.ifCond .eq 13, 3) := by decide +kernel
theorem d_m_volume_62 : decode (mz_c M_m_volume) 62 = .ok (.aload_n 0, 1) := by decide +kernel
theorem d_m_volume_63 : decode (mz_c M_m_volume) 63 = .ok (.getfield 30, 3) := by decide +kernel
theorem d_m_volume_66 : decode (mz_c M_m_volume) 66 = .ok (.iload 8, 2) := by decide +kernel
theorem d_m_volume_68 : decode (mz_c M_m_volume) 68 = .ok (.iaload, 1) := by decide +kernel
theorem d_m_volume_69 : decode (mz_c M_m_volume) 69 = .ok (.goto 4, 3) := by decide +kernel
theorem d_m_volume_72 : decode (mz_c M_m_volume) 72 = .ok (.iconst 0, 1) := by decide +kernel
theorem d_m_volume_73 : decode (mz_c M_m_volume) 73 = .ok (.iadd, 1) := by decide +kernel
theorem d_m_volume_74 : decode (mz_c M_m_volume) 74 = .ok (.istore 6, 2) := by decide +kernel
theorem d_m_volume_76 : decode (mz_c M_m_volume) 76 = .ok (.iinc 7 1, 3) := by decide +kernel
theorem d_m_volume_79 : decode (mz_c M_m_volume) 79 = .ok (.goto (-73), 3) := by decide +kernel
theorem d_m_volume_82 : decode (mz_c M_m_volume) 82 = .ok (.iconst 0, 1) := by decide +kernel
theorem d_m_volume_83 : decode (mz_c M_m_volume) 83 = .ok (.istore 7, 2) := by decide +kernel
theorem d_m_volume_85 : decode (mz_c M_m_volume) 85 = .ok (.iload 7, 2) := by decide +kernel
theorem d_m_volume_87 : decode (mz_c M_m_volume) 87 = .ok (.aload_n 0, 1) := by decide +kernel
theorem d_m_volume_88 : decode (mz_c M_m_volume) 88 = .ok (.getfield 172, 3) := by decide +kernel
theorem d_m_volume_91 : decode (mz_c M_m_volume) 91 = .ok (.if_icmp .ge 115, 3) := by decide +kernel
theorem d_m_volume_94 : decode (mz_c M_m_volume) 94 = .ok (.aload_n 0, 1) := by decide +kernel
theorem d_m_volume_95 : decode (mz_c M_m_volume) 95 = .ok (.getfield 73, 3) := by decide +kernel
theorem d_m_volume_98 : decode (mz_c M_m_volume) 98 = .ok (.iload 7, 2) := by decide +kernel
theorem d_m_volume_100 : decode (mz_c M_m_volume) 100 = .ok (.iaload, 1) := by decide +kernel
theorem d_m_volume_101 : decode (mz_c M_m_volume) 101 = .ok (.istore 8, 2) := by decide +kernel
theorem d_m_volume_103 : decode (mz_c M_m_volume) 103 = .ok (.aload_n 0, 1) := by decide +kernel
theorem d_m_volume_104 : decode (mz_c M_m_volume) 104 = .ok (.getfield 27, 3) := by decide +kernel
theorem d_m_volume_107 : decode (mz_c M_m_volume) 107 = .ok (.iload 8, 2) := by decide +kernel
theorem d_m_volume_109 : decode (mz_c M_m_volume) 109 = .ok (.iaload, 1) := by decide +kernel
theorem d_m_volume_110 : decode (mz_c M_m_volume) 110 = .ok (.iload 4, 2) := by decide +kernel
theorem d_m_volume_112 : decode (mz_c M_m_volume) 112 = .ok (.if_icmp .ne 64, 3) := by decide +kernel
theorem d_m_volume_115 : decode (mz_c M_m_volume) 115 = .ok (.aload_n 0, 1) := by decide +kernel
theorem d_m_volume_116 : decode (mz_c M_m_volume) 116 = .ok (.getfield 24, 3) := by decide +kernel
theorem d_m_volume_119 : decode (mz_c M_m_volume) 119 = .ok (.iload 8, 2) := by decide +kernel
theorem d_m_volume_121 : decode (mz_c M_m_volume) 121 = .ok (.iaload, 1) := by decide +kernel
theorem d_m_volume_122 : decode (mz_c M_m_volume) 122 = .ok (.iload_n 2, 1) := by decide +kernel
theorem d_m_volume_123 : decode (mz_c M_m_volume) 123 = .ok (.if_icmp .ne 53, 3) := by decide +kernel
theorem d_m_volume_126 : decode (mz_c M_m_volume) 126 = .ok (.iload 4, 2) := by decide +kernel
theorem d_m_volume_128 : decode (mz_c M_m_volume) 128 = .ok (.ifCond .ne 17, 3) := by decide +kernel
theorem d_m_volume_131 : decode (mz_c M_m_volume) 131 = .ok (.aload_n 0, 1) := by decide +kernel
theorem d_m_volume_132 : decode (mz_c M_m_volume) 132 = .ok (.getfield 33, 3) := by decide +kernel
theorem d_m_volume_135 : decode (mz_c M_m_volume) 135 = .ok (.iload 8, 2) := by decide +kernel
theorem d_m_volume_137 : decode (mz_c M_m_volume) 137 = .ok (.iaload, 1) := by decide +kernel
theorem d_m_volume_138 : decode (mz_c M_m_volume) 138 = .ok (.iload_n 3, 1) := by decide +kernel
theorem d_m_volume_139 : decode (mz_c M_m_volume) 139 = .ok (.if_icmp .le 17, 3) := by decide +kernel
theorem d_m_volume_142 : decode (mz_c M_m_volume) 142 = .ok (.goto 30, 3) := by decide +kernel
theorem d_m_volume_145 : decode (mz_c M_m_volume) 145 = .ok (.aload_n 0, 1) := by decide +kernel
theorem d_m_volume_146 : decode (mz_c M_m_volume) 146 = .ok (.getfield 33, 3) := by decide +kernel
theorem d_m_volume_149 : decode (mz_c M_m_volume) 149 = .ok (.iload 8, 2) := by decide +kernel
theorem d_m_volume_151 : decode (mz_c M_m_volume) 151 = .ok (.iaload, 1) := by decide +kernel
theorem d_m_volume_152 : decode (mz_c M_m_volume) 152 = .ok (.iload_n 3, 1) := by decide +kernel
theorem d_m_volume_153 : decode (mz_c M_m_volume) 153 = .ok (.if_icmp .lt 19, 3) := by decide +kernel
theorem d_m_volume_156 : decode (mz_c M_m_volume) 156 = .ok (.iload 5, 2) := by decide +kernel
theorem d_m_volume_158 : decode (mz_c M_m_volume) 158 = .ok (.ifCond .eq 18, 3) := by decide +kernel
theorem d_m_volume_161 : decode (mz_c M_m_volume) 161 = .ok (.aload_n 0, 1) := by decide +kernel
theorem d_m_volume_162 : decode (mz_c M_m_volume) 162 = .ok (.getfield 33, 3) := by decide +kernel
theorem d_m_volume_165 : decode (mz_c M_m_volume) 165 = .ok (.iload 8, 2) := by decide +kernel
theorem d_m_volume_167 : decode (mz_c M_m_volume) 167 = .ok (.iaload, 1) := by decide +kernel
theorem d_m_volume_168 : decode (mz_c M_m_volume) 168 = .ok (.iload_n 3, 1) := by decide +kernel
theorem d_m_volume_169 : decode (mz_c M_m_volume) 169 = .ok (.if_icmp .ne 7, 3) := by decide +kernel
theorem d_m_volume_172 : decode (mz_c M_m_volume) 172 = .ok (.iconst 1, 1) := by decide +kernel
theorem d_m_volume_173 : decode (mz_c M_m_volume) 173 = .ok (.goto 4, 3) := by decide +kernel
theorem d_m_volume_176 : decode (mz_c M_m_volume) 176 = .ok (.iconst 0, 1) := by decide +kernel
theorem d_m_volume_177 : decode (mz_c M_m_volume) 177 = .ok (.istore 9, 2) := by decide +kernel
theorem d_m_volume_179 : decode (mz_c M_m_volume) 179 = .ok (.iload 6, 2) := by decide +kernel
theorem d_m_volume_181 : decode (mz_c M_m_volume) 181 = .ok (.iload 9, 2) := by decide +kernel
theorem d_m_volume_183 : decode (mz_c M_m_volume) 183 = .ok (.ifCond .eq 13, 3) := by decide +kernel
theorem d_m_volume_186 : decode (mz_c M_m_volume) 186 = .ok (.aload_n 0, 1) := by decide +kernel
theorem d_m_volume_187 : decode (mz_c M_m_volume) 187 = .ok (.getfield 30, 3) := by decide +kernel
theorem d_m_volume_190 : decode (mz_c M_m_volume) 190 = .ok (.iload 8, 2) := by decide +kernel
theorem d_m_volume_192 : decode (mz_c M_m_volume) 192 = .ok (.iaload, 1) := by decide +kernel
theorem d_m_volume_193 : decode (mz_c M_m_volume) 193 = .ok (.goto 4, 3) := by decide +kernel
theorem d_m_volume_196 : decode (mz_c M_m_volume) 196 = .ok (.iconst 0, 1) := by decide +kernel
theorem d_m_volume_197 : decode (mz_c M_m_volume) 197 = .ok (.iadd, 1) := by decide +kernel
theorem d_m_volume_198 : decode (mz_c M_m_volume) 198 = .ok (.istore 6, 2) := by decide +kernel
theorem d_m_volume_200 : decode (mz_c M_m_volume) 200 = .ok (.iinc 7 1, 3) := by decide +kernel
theorem d_m_volume_203 : decode (mz_c M_m_volume) 203 = .ok (.goto (-118), 3) := by decide +kernel
theorem d_m_volume_206 : decode (mz_c M_m_volume) 206 = .ok (.iload 6, 2) := by decide +kernel
theorem d_m_volume_208 : decode (mz_c M_m_volume) 208 = .ok (.ireturn, 1) := by decide +kernel
theorem d_m_least_0 : decode (mz_c M_m_least) 0 = .ok (.sipush (-5000), 3) := by decide +kernel
theorem d_m_least_3 : decode (mz_c M_m_least) 3 = .ok (.istore_n 3, 1) := by decide +kernel
theorem d_m_least_4 : decode (mz_c M_m_least) 4 = .ok (.ldc 181, 2) := by decide +kernel
theorem d_m_least_6 : decode (mz_c M_m_least) 6 = .ok (.istore 4, 2) := by decide +kernel
theorem d_m_least_8 : decode (mz_c M_m_least) 8 = .ok (.iload_n 3, 1) := by decide +kernel
theorem d_m_least_9 : decode (mz_c M_m_least) 9 = .ok (.iload 4, 2) := by decide +kernel
theorem d_m_least_11 : decode (mz_c M_m_least) 11 = .ok (.if_icmp .ge 51, 3) := by decide +kernel
theorem d_m_least_14 : decode (mz_c M_m_least) 14 = .ok (.iload_n 3, 1) := by decide +kernel
theorem d_m_least_15 : decode (mz_c M_m_least) 15 = .ok (.iload 4, 2) := by decide +kernel
theorem d_m_least_17 : decode (mz_c M_m_least) 17 = .ok (.iload_n 3, 1) := by decide +kernel
theorem d_m_least_18 : decode (mz_c M_m_least) 18 = .ok (.isub, 1) := by decide +kernel
theorem d_m_least_19 : decode (mz_c M_m_least) 19 = .ok (.iconst 2, 1) := by decide +kernel
theorem d_m_least_20 : decode (mz_c M_m_least) 20 = .ok (.idiv, 1) := by decide +kernel
theorem d_m_least_21 : decode (mz_c M_m_least) 21 = .ok (.iadd, 1) := by decide +kernel
theorem d_m_least_22 : decode (mz_c M_m_least) 22 = .ok (.istore 5, 2) := by decide +kernel
theorem d_m_least_24 : decode (mz_c M_m_least) 24 = .ok (.aload_n 0, 1) := by decide +kernel
theorem d_m_least_25 : decode (mz_c M_m_least) 25 = .ok (.iload_n 1, 1) := by decide +kernel
theorem d_m_least_26 : decode (mz_c M_m_least) 26 = .ok (.iload_n 2, 1) := by decide +kernel
theorem d_m_least_27 : decode (mz_c M_m_least) 27 = .ok (.iload 5, 2) := by decide +kernel
theorem d_m_least_29 : decode (mz_c M_m_least) 29 = .ok (.iconst 0, 1) := by decide +kernel
theorem d_m_least_30 : decode (mz_c M_m_least) 30 = .ok (.iconst 0, 1) := by decide +kernel
theorem d_m_least_31 : decode (mz_c M_m_least) 31 = .ok (.invokevirtual 182, 3) := by decide +kernel
theorem d_m_least_34 : decode (mz_c M_m_least) 34 = .ok (.aload_n 0, 1) := by decide +kernel
theorem d_m_least_35 : decode (mz_c M_m_least) 35 = .ok (.iload_n 1, 1) := by decide +kernel
theorem d_m_least_36 : decode (mz_c M_m_least) 36 = .ok (.iload_n 2, 1) := by decide +kernel
theorem d_m_least_37 : decode (mz_c M_m_least) 37 = .ok (.iload 5, 2) := by decide +kernel
theorem d_m_least_39 : decode (mz_c M_m_least) 39 = .ok (.iconst 1, 1) := by decide +kernel
theorem d_m_least_40 : decode (mz_c M_m_least) 40 = .ok (.iconst 1, 1) := by decide +kernel
theorem d_m_least_41 : decode (mz_c M_m_least) 41 = .ok (.invokevirtual 182, 3) := by decide +kernel
theorem d_m_least_44 : decode (mz_c M_m_least) 44 = .ok (.if_icmp .gt 10, 3) := by decide +kernel
theorem d_m_least_47 : decode (mz_c M_m_least) 47 = .ok (.iload 5, 2) := by decide +kernel
theorem d_m_least_49 : decode (mz_c M_m_least) 49 = .ok (.istore 4, 2) := by decide +kernel
theorem d_m_least_51 : decode (mz_c M_m_least) 51 = .ok (.goto 8, 3) := by decide +kernel
theorem d_m_least_54 : decode (mz_c M_m_least) 54 = .ok (.iload 5, 2) := by decide +kernel
theorem d_m_least_56 : decode (mz_c M_m_least) 56 = .ok (.iconst 1, 1) := by decide +kernel
theorem d_m_least_57 : decode (mz_c M_m_least) 57 = .ok (.iadd, 1) := by decide +kernel
theorem d_m_least_58 : decode (mz_c M_m_least) 58 = .ok (.istore_n 3, 1) := by decide +kernel
theorem d_m_least_59 : decode (mz_c M_m_least) 59 = .ok (.goto (-51), 3) := by decide +kernel
theorem d_m_least_62 : decode (mz_c M_m_least) 62 = .ok (.iload_n 3, 1) := by decide +kernel
theorem d_m_least_63 : decode (mz_c M_m_least) 63 = .ok (.ireturn, 1) := by decide +kernel
theorem d_m_greatest_0 : decode (mz_c M_m_greatest) 0 = .ok (.sipush (-5001), 3) := by decide +kernel
theorem d_m_greatest_3 : decode (mz_c M_m_greatest) 3 = .ok (.istore_n 3, 1) := by decide +kernel
theorem d_m_greatest_4 : decode (mz_c M_m_greatest) 4 = .ok (.ldc 186, 2) := by decide +kernel
theorem d_m_greatest_6 : decode (mz_c M_m_greatest) 6 = .ok (.istore 4, 2) := by decide +kernel
theorem d_m_greatest_8 : decode (mz_c M_m_greatest) 8 = .ok (.iload_n 3, 1) := by decide +kernel
theorem d_m_greatest_9 : decode (mz_c M_m_greatest) 9 = .ok (.iload 4, 2) := by decide +kernel
theorem d_m_greatest_11 : decode (mz_c M_m_greatest) 11 = .ok (.if_icmp .ge 53, 3) := by decide +kernel
theorem d_m_greatest_14 : decode (mz_c M_m_greatest) 14 = .ok (.iload_n 3, 1) := by decide +kernel
theorem d_m_greatest_15 : decode (mz_c M_m_greatest) 15 = .ok (.iload 4, 2) := by decide +kernel
theorem d_m_greatest_17 : decode (mz_c M_m_greatest) 17 = .ok (.iload_n 3, 1) := by decide +kernel
theorem d_m_greatest_18 : decode (mz_c M_m_greatest) 18 = .ok (.isub, 1) := by decide +kernel
theorem d_m_greatest_19 : decode (mz_c M_m_greatest) 19 = .ok (.iconst 1, 1) := by decide +kernel
theorem d_m_greatest_20 : decode (mz_c M_m_greatest) 20 = .ok (.iadd, 1) := by decide +kernel
theorem d_m_greatest_21 : decode (mz_c M_m_greatest) 21 = .ok (.iconst 2, 1) := by decide +kernel
theorem d_m_greatest_22 : decode (mz_c M_m_greatest) 22 = .ok (.idiv, 1) := by decide +kernel
theorem d_m_greatest_23 : decode (mz_c M_m_greatest) 23 = .ok (.iadd, 1) := by decide +kernel
theorem d_m_greatest_24 : decode (mz_c M_m_greatest) 24 = .ok (.istore 5, 2) := by decide +kernel
theorem d_m_greatest_26 : decode (mz_c M_m_greatest) 26 = .ok (.aload_n 0, 1) := by decide +kernel
theorem d_m_greatest_27 : decode (mz_c M_m_greatest) 27 = .ok (.iload_n 1, 1) := by decide +kernel
theorem d_m_greatest_28 : decode (mz_c M_m_greatest) 28 = .ok (.iload_n 2, 1) := by decide +kernel
theorem d_m_greatest_29 : decode (mz_c M_m_greatest) 29 = .ok (.iload 5, 2) := by decide +kernel
theorem d_m_greatest_31 : decode (mz_c M_m_greatest) 31 = .ok (.iconst 1, 1) := by decide +kernel
theorem d_m_greatest_32 : decode (mz_c M_m_greatest) 32 = .ok (.iconst 0, 1) := by decide +kernel
theorem d_m_greatest_33 : decode (mz_c M_m_greatest) 33 = .ok (.invokevirtual 182, 3) := by decide +kernel
theorem d_m_greatest_36 : decode (mz_c M_m_greatest) 36 = .ok (.aload_n 0, 1) := by decide +kernel
theorem d_m_greatest_37 : decode (mz_c M_m_greatest) 37 = .ok (.iload_n 1, 1) := by decide +kernel
theorem d_m_greatest_38 : decode (mz_c M_m_greatest) 38 = .ok (.iload_n 2, 1) := by decide +kernel
theorem d_m_greatest_39 : decode (mz_c M_m_greatest) 39 = .ok (.iload 5, 2) := by decide +kernel
theorem d_m_greatest_41 : decode (mz_c M_m_greatest) 41 = .ok (.iconst 0, 1) := by decide +kernel
theorem d_m_greatest_42 : decode (mz_c M_m_greatest) 42 = .ok (.iconst 1, 1) := by decide +kernel
theorem d_m_greatest_43 : decode (mz_c M_m_greatest) 43 = .ok (.invokevirtual 182, 3) := by decide +kernel
theorem d_m_greatest_46 : decode (mz_c M_m_greatest) 46 = .ok (.if_icmp .gt 9, 3) := by decide +kernel
theorem d_m_greatest_49 : decode (mz_c M_m_greatest) 49 = .ok (.iload 5, 2) := by decide +kernel
theorem d_m_greatest_51 : decode (mz_c M_m_greatest) 51 = .ok (.istore_n 3, 1) := by decide +kernel
theorem d_m_greatest_52 : decode (mz_c M_m_greatest) 52 = .ok (.goto 9, 3) := by decide +kernel
theorem d_m_greatest_55 : decode (mz_c M_m_greatest) 55 = .ok (.iload 5, 2) := by decide +kernel
theorem d_m_greatest_57 : decode (mz_c M_m_greatest) 57 = .ok (.iconst 1, 1) := by decide +kernel
theorem d_m_greatest_58 : decode (mz_c M_m_greatest) 58 = .ok (.isub, 1) := by decide +kernel
theorem d_m_greatest_59 : decode (mz_c M_m_greatest) 59 = .ok (.istore 4, 2) := by decide +kernel
theorem d_m_greatest_61 : decode (mz_c M_m_greatest) 61 = .ok (.goto (-53), 3) := by decide +kernel
theorem d_m_greatest_64 : decode (mz_c M_m_greatest) 64 = .ok (.iload_n 3, 1) := by decide +kernel
theorem d_m_greatest_65 : decode (mz_c M_m_greatest) 65 = .ok (.ireturn, 1) := by decide +kernel
theorem d_m_floorHalf_0 : decode (mz_c M_m_floorHalf) 0 = .ok (.iload_n 0, 1) := by decide +kernel
theorem d_m_floorHalf_1 : decode (mz_c M_m_floorHalf) 1 = .ok (.ifCond .lt 9, 3) := by decide +kernel
theorem d_m_floorHalf_4 : decode (mz_c M_m_floorHalf) 4 = .ok (.iload_n 0, 1) := by decide +kernel
theorem d_m_floorHalf_5 : decode (mz_c M_m_floorHalf) 5 = .ok (.iconst 2, 1) := by decide +kernel
theorem d_m_floorHalf_6 : decode (mz_c M_m_floorHalf) 6 = .ok (.idiv, 1) := by decide +kernel
theorem d_m_floorHalf_7 : decode (mz_c M_m_floorHalf) 7 = .ok (.goto 9, 3) := by decide +kernel
theorem d_m_floorHalf_10 : decode (mz_c M_m_floorHalf) 10 = .ok (.iconst 1, 1) := by decide +kernel
theorem d_m_floorHalf_11 : decode (mz_c M_m_floorHalf) 11 = .ok (.iload_n 0, 1) := by decide +kernel
theorem d_m_floorHalf_12 : decode (mz_c M_m_floorHalf) 12 = .ok (.isub, 1) := by decide +kernel
theorem d_m_floorHalf_13 : decode (mz_c M_m_floorHalf) 13 = .ok (.iconst 2, 1) := by decide +kernel
theorem d_m_floorHalf_14 : decode (mz_c M_m_floorHalf) 14 = .ok (.idiv, 1) := by decide +kernel
theorem d_m_floorHalf_15 : decode (mz_c M_m_floorHalf) 15 = .ok (.ineg, 1) := by decide +kernel
theorem d_m_floorHalf_16 : decode (mz_c M_m_floorHalf) 16 = .ok (.ireturn, 1) := by decide +kernel
theorem d_m_fits_0 : decode (mz_c M_m_fits) 0 = .ok (.iconst 0, 1) := by decide +kernel
theorem d_m_fits_1 : decode (mz_c M_m_fits) 1 = .ok (.istore_n 2, 1) := by decide +kernel
theorem d_m_fits_2 : decode (mz_c M_m_fits) 2 = .ok (.iload_n 2, 1) := by decide +kernel
theorem d_m_fits_3 : decode (mz_c M_m_fits) 3 = .ok (.iconst 3, 1) := by decide +kernel
theorem d_m_fits_4 : decode (mz_c M_m_fits) 4 = .ok (.if_icmp .ge 97, 3) := by decide +kernel
theorem d_m_fits_7 : decode (mz_c M_m_fits) 7 = .ok (.aload_n 0, 1) := by decide +kernel
theorem d_m_fits_8 : decode (mz_c M_m_fits) 8 = .ok (.iload_n 1, 1) := by decide +kernel
theorem d_m_fits_9 : decode (mz_c M_m_fits) 9 = .ok (.iload_n 2, 1) := by decide +kernel
theorem d_m_fits_10 : decode (mz_c M_m_fits) 10 = .ok (.invokevirtual 187, 3) := by decide +kernel
theorem d_m_fits_13 : decode (mz_c M_m_fits) 13 = .ok (.istore_n 3, 1) := by decide +kernel
theorem d_m_fits_14 : decode (mz_c M_m_fits) 14 = .ok (.aload_n 0, 1) := by decide +kernel
theorem d_m_fits_15 : decode (mz_c M_m_fits) 15 = .ok (.iload_n 1, 1) := by decide +kernel
theorem d_m_fits_16 : decode (mz_c M_m_fits) 16 = .ok (.iload_n 2, 1) := by decide +kernel
theorem d_m_fits_17 : decode (mz_c M_m_fits) 17 = .ok (.invokevirtual 190, 3) := by decide +kernel
theorem d_m_fits_20 : decode (mz_c M_m_fits) 20 = .ok (.istore 4, 2) := by decide +kernel
theorem d_m_fits_22 : decode (mz_c M_m_fits) 22 = .ok (.iload_n 3, 1) := by decide +kernel
theorem d_m_fits_23 : decode (mz_c M_m_fits) 23 = .ok (.iload 4, 2) := by decide +kernel
theorem d_m_fits_25 : decode (mz_c M_m_fits) 25 = .ok (.if_icmp .le 5, 3) := by decide +kernel
theorem d_m_fits_28 : decode (mz_c M_m_fits) 28 = .ok (.iconst 0, 1) := by decide +kernel
theorem d_m_fits_29 : decode (mz_c M_m_fits) 29 = .ok (.ireturn, 1) := by decide +kernel
theorem d_m_fits_30 : decode (mz_c M_m_fits) 30 = .ok (.aload_n 0, 1) := by decide +kernel
theorem d_m_fits_31 : decode (mz_c M_m_fits) 31 = .ok (.getfield 85, 3) := by decide +kernel
theorem d_m_fits_34 : decode (mz_c M_m_fits) 34 = .ok (.iload_n 2, 1) := by decide +kernel
theorem d_m_fits_35 : decode (mz_c M_m_fits) 35 = .ok (.iload_n 3, 1) := by decide +kernel
theorem d_m_fits_36 : decode (mz_c M_m_fits) 36 = .ok (.iload 4, 2) := by decide +kernel
theorem d_m_fits_38 : decode (mz_c M_m_fits) 38 = .ok (.iadd, 1) := by decide +kernel
theorem d_m_fits_39 : decode (mz_c M_m_fits) 39 = .ok (.invokestatic 193, 3) := by decide +kernel
theorem d_m_fits_42 : decode (mz_c M_m_fits) 42 = .ok (.iastore, 1) := by decide +kernel
theorem d_m_fits_43 : decode (mz_c M_m_fits) 43 = .ok (.aload_n 0, 1) := by decide +kernel
theorem d_m_fits_44 : decode (mz_c M_m_fits) 44 = .ok (.iload_n 1, 1) := by decide +kernel
theorem d_m_fits_45 : decode (mz_c M_m_fits) 45 = .ok (.iload_n 2, 1) := by decide +kernel
