theorem d_x_init_0 : decode (mz_c M_x_init) 0 = .ok (.aload_n 0, 1) := by decide +kernel
theorem d_x_init_1 : decode (mz_c M_x_init) 1 = .ok (.invokespecial 3, 3) := by decide +kernel
theorem d_x_init_4 : decode (mz_c M_x_init) 4 = .ok (.aload_n 0, 1) := by decide +kernel
theorem d_x_init_5 : decode (mz_c M_x_init) 5 = .ok (.iload_n 1, 1) := by decide +kernel
theorem d_x_init_6 : decode (mz_c M_x_init) 6 = .ok (.iconst 1, 1) := by decide +kernel
theorem d_x_init_7 : decode (mz_c M_x_init) 7 = .ok (.if_icmp .lt 13, 3) := by decide +kernel
theorem d_x_init_10 : decode (mz_c M_x_init) 10 = .ok (.iload_n 1, 1) := by decide +kernel
theorem d_x_init_11 : decode (mz_c M_x_init) 11 = .ok (.bipush 6, 2) := by decide +kernel
theorem d_x_init_13 : decode (mz_c M_x_init) 13 = .ok (.if_icmp .gt 7, 3) := by decide +kernel
theorem d_x_init_16 : decode (mz_c M_x_init) 16 = .ok (.iload_n 1, 1) := by decide +kernel
theorem d_x_init_17 : decode (mz_c M_x_init) 17 = .ok (.goto 4, 3) := by decide +kernel
theorem d_x_init_20 : decode (mz_c M_x_init) 20 = .ok (.iconst 1, 1) := by decide +kernel
theorem d_x_init_21 : decode (mz_c M_x_init) 21 = .ok (.putfield 9, 3) := by decide +kernel
theorem d_x_init_24 : decode (mz_c M_x_init) 24 = .ok (.aload_n 0, 1) := by decide +kernel
theorem d_x_init_25 : decode (mz_c M_x_init) 25 = .ok (.bipush 6, 2) := by decide +kernel
theorem d_x_init_27 : decode (mz_c M_x_init) 27 = .ok (.newarray .int, 2) := by decide +kernel
theorem d_x_init_29 : decode (mz_c M_x_init) 29 = .ok (.putfield 13, 3) := by decide +kernel
theorem d_x_init_32 : decode (mz_c M_x_init) 32 = .ok (.aload_n 0, 1) := by decide +kernel
theorem d_x_init_33 : decode (mz_c M_x_init) 33 = .ok (.bipush 6, 2) := by decide +kernel
theorem d_x_init_35 : decode (mz_c M_x_init) 35 = .ok (.newarray .boolean, 2) := by decide +kernel
theorem d_x_init_37 : decode (mz_c M_x_init) 37 = .ok (.putfield 17, 3) := by decide +kernel
theorem d_x_init_40 : decode (mz_c M_x_init) 40 = .ok (.aload_n 0, 1) := by decide +kernel
theorem d_x_init_41 : decode (mz_c M_x_init) 41 = .ok (.bipush 6, 2) := by decide +kernel
theorem d_x_init_43 : decode (mz_c M_x_init) 43 = .ok (.newarray .boolean, 2) := by decide +kernel
theorem d_x_init_45 : decode (mz_c M_x_init) 45 = .ok (.putfield 21, 3) := by decide +kernel
theorem d_x_init_48 : decode (mz_c M_x_init) 48 = .ok (.aload_n 0, 1) := by decide +kernel
theorem d_x_init_49 : decode (mz_c M_x_init) 49 = .ok (.bipush 18, 2) := by decide +kernel
theorem d_x_init_51 : decode (mz_c M_x_init) 51 = .ok (.newarray .int, 2) := by decide +kernel
theorem d_x_init_53 : decode (mz_c M_x_init) 53 = .ok (.putfield 24, 3) := by decide +kernel
theorem d_x_init_56 : decode (mz_c M_x_init) 56 = .ok (.aload_n 0, 1) := by decide +kernel
theorem d_x_init_57 : decode (mz_c M_x_init) 57 = .ok (.new 27, 3) := by decide +kernel
theorem d_x_init_60 : decode (mz_c M_x_init) 60 = .ok (.dup, 1) := by decide +kernel
theorem d_x_init_61 : decode (mz_c M_x_init) 61 = .ok (.invokespecial 29, 3) := by decide +kernel
theorem d_x_init_64 : decode (mz_c M_x_init) 64 = .ok (.putfield 30, 3) := by decide +kernel
theorem d_x_init_67 : decode (mz_c M_x_init) 67 = .ok (.aload_n 0, 1) := by decide +kernel
theorem d_x_init_68 : decode (mz_c M_x_init) 68 = .ok (.new 34, 3) := by decide +kernel
theorem d_x_init_71 : decode (mz_c M_x_init) 71 = .ok (.dup, 1) := by decide +kernel
theorem d_x_init_72 : decode (mz_c M_x_init) 72 = .ok (.aload_n 0, 1) := by decide +kernel
theorem d_x_init_73 : decode (mz_c M_x_init) 73 = .ok (.getfield 30, 3) := by decide +kernel
theorem d_x_init_76 : decode (mz_c M_x_init) 76 = .ok (.invokespecial 36, 3) := by decide +kernel
theorem d_x_init_79 : decode (mz_c M_x_init) 79 = .ok (.putfield 39, 3) := by decide +kernel
theorem d_x_init_82 : decode (mz_c M_x_init) 82 = .ok (.aload_n 0, 1) := by decide +kernel
theorem d_x_init_83 : decode (mz_c M_x_init) 83 = .ok (.new 43, 3) := by decide +kernel
theorem d_x_init_86 : decode (mz_c M_x_init) 86 = .ok (.dup, 1) := by decide +kernel
theorem d_x_init_87 : decode (mz_c M_x_init) 87 = .ok (.aload_n 0, 1) := by decide +kernel
theorem d_x_init_88 : decode (mz_c M_x_init) 88 = .ok (.getfield 30, 3) := by decide +kernel
theorem d_x_init_91 : decode (mz_c M_x_init) 91 = .ok (.invokespecial 45, 3) := by decide +kernel
theorem d_x_init_94 : decode (mz_c M_x_init) 94 = .ok (.putfield 46, 3) := by decide +kernel
theorem d_x_init_97 : decode (mz_c M_x_init) 97 = .ok (.aload_n 0, 1) := by decide +kernel
theorem d_x_init_98 : decode (mz_c M_x_init) 98 = .ok (.iconst 4, 1) := by decide +kernel
theorem d_x_init_99 : decode (mz_c M_x_init) 99 = .ok (.anewarray 50, 3) := by decide +kernel
theorem d_x_init_102 : decode (mz_c M_x_init) 102 = .ok (.putfield 52, 3) := by decide +kernel
theorem d_x_init_105 : decode (mz_c M_x_init) 105 = .ok (.iconst 0, 1) := by decide +kernel
theorem d_x_init_106 : decode (mz_c M_x_init) 106 = .ok (.istore_n 2, 1) := by decide +kernel
theorem d_x_init_107 : decode (mz_c M_x_init) 107 = .ok (.iload_n 2, 1) := by decide +kernel
theorem d_x_init_108 : decode (mz_c M_x_init) 108 = .ok (.iconst 4, 1) := by decide +kernel
theorem d_x_init_109 : decode (mz_c M_x_init) 109 = .ok (.if_icmp .ge 22, 3) := by decide +kernel
theorem d_x_init_112 : decode (mz_c M_x_init) 112 = .ok (.aload_n 0, 1) := by decide +kernel
theorem d_x_init_113 : decode (mz_c M_x_init) 113 = .ok (.getfield 52, 3) := by decide +kernel
theorem d_x_init_116 : decode (mz_c M_x_init) 116 = .ok (.iload_n 2, 1) := by decide +kernel
theorem d_x_init_117 : decode (mz_c M_x_init) 117 = .ok (.new 50, 3) := by decide +kernel
theorem d_x_init_120 : decode (mz_c M_x_init) 120 = .ok (.dup, 1) := by decide +kernel
theorem d_x_init_121 : decode (mz_c M_x_init) 121 = .ok (.invokespecial 56, 3) := by decide +kernel
theorem d_x_init_124 : decode (mz_c M_x_init) 124 = .ok (.aastore, 1) := by decide +kernel
theorem d_x_init_125 : decode (mz_c M_x_init) 125 = .ok (.iinc 2 1, 3) := by decide +kernel
theorem d_x_init_128 : decode (mz_c M_x_init) 128 = .ok (.goto (-21), 3) := by decide +kernel
theorem d_x_init_131 : decode (mz_c M_x_init) 131 = .ok (.aload_n 0, 1) := by decide +kernel
theorem d_x_init_132 : decode (mz_c M_x_init) 132 = .ok (.iconst 0, 1) := by decide +kernel
theorem d_x_init_133 : decode (mz_c M_x_init) 133 = .ok (.putfield 57, 3) := by decide +kernel
theorem d_x_init_136 : decode (mz_c M_x_init) 136 = .ok (.return_, 1) := by decide +kernel
theorem d_x_collateral_0 : decode (mz_c M_x_collateral) 0 = .ok (.aload_n 0, 1) := by decide +kernel
theorem d_x_collateral_1 : decode (mz_c M_x_collateral) 1 = .ok (.iload_n 1, 1) := by decide +kernel
theorem d_x_collateral_2 : decode (mz_c M_x_collateral) 2 = .ok (.invokevirtual 60, 3) := by decide +kernel
theorem d_x_collateral_5 : decode (mz_c M_x_collateral) 5 = .ok (.ifCond .eq 13, 3) := by decide +kernel
theorem d_x_collateral_8 : decode (mz_c M_x_collateral) 8 = .ok (.iload_n 2, 1) := by decide +kernel
theorem d_x_collateral_9 : decode (mz_c M_x_collateral) 9 = .ok (.ifCond .lt 9, 3) := by decide +kernel
theorem d_x_collateral_12 : decode (mz_c M_x_collateral) 12 = .ok (.iload_n 2, 1) := by decide +kernel
theorem d_x_collateral_13 : decode (mz_c M_x_collateral) 13 = .ok (.ldc 64, 2) := by decide +kernel
theorem d_x_collateral_15 : decode (mz_c M_x_collateral) 15 = .ok (.if_icmp .le 13, 3) := by decide +kernel
theorem d_x_collateral_18 : decode (mz_c M_x_collateral) 18 = .ok (.new 65, 3) := by decide +kernel
theorem d_x_collateral_21 : decode (mz_c M_x_collateral) 21 = .ok (.dup, 1) := by decide +kernel
theorem d_x_collateral_22 : decode (mz_c M_x_collateral) 22 = .ok (.ldc 67, 2) := by decide +kernel
theorem d_x_collateral_24 : decode (mz_c M_x_collateral) 24 = .ok (.invokespecial 69, 3) := by decide +kernel
theorem d_x_collateral_27 : decode (mz_c M_x_collateral) 27 = .ok (.athrow, 1) := by decide +kernel
theorem d_x_collateral_28 : decode (mz_c M_x_collateral) 28 = .ok (.aload_n 0, 1) := by decide +kernel
theorem d_x_collateral_29 : decode (mz_c M_x_collateral) 29 = .ok (.getfield 17, 3) := by decide +kernel
theorem d_x_collateral_32 : decode (mz_c M_x_collateral) 32 = .ok (.iload_n 1, 1) := by decide +kernel
theorem d_x_collateral_33 : decode (mz_c M_x_collateral) 33 = .ok (.baload, 1) := by decide +kernel
theorem d_x_collateral_34 : decode (mz_c M_x_collateral) 34 = .ok (.ifCond .ne 12, 3) := by decide +kernel
theorem d_x_collateral_37 : decode (mz_c M_x_collateral) 37 = .ok (.aload_n 0, 1) := by decide +kernel
theorem d_x_collateral_38 : decode (mz_c M_x_collateral) 38 = .ok (.getfield 21, 3) := by decide +kernel
theorem d_x_collateral_41 : decode (mz_c M_x_collateral) 41 = .ok (.iload_n 1, 1) := by decide +kernel
theorem d_x_collateral_42 : decode (mz_c M_x_collateral) 42 = .ok (.baload, 1) := by decide +kernel
theorem d_x_collateral_43 : decode (mz_c M_x_collateral) 43 = .ok (.ifCond .eq 13, 3) := by decide +kernel
theorem d_x_collateral_46 : decode (mz_c M_x_collateral) 46 = .ok (.new 72, 3) := by decide +kernel
theorem d_x_collateral_49 : decode (mz_c M_x_collateral) 49 = .ok (.dup, 1) := by decide +kernel
theorem d_x_collateral_50 : decode (mz_c M_x_collateral) 50 = .ok (.ldc 74, 2) := by decide +kernel
theorem d_x_collateral_52 : decode (mz_c M_x_collateral) 52 = .ok (.invokespecial 76, 3) := by decide +kernel
theorem d_x_collateral_55 : decode (mz_c M_x_collateral) 55 = .ok (.athrow, 1) := by decide +kernel
theorem d_x_collateral_56 : decode (mz_c M_x_collateral) 56 = .ok (.aload_n 0, 1) := by decide +kernel
theorem d_x_collateral_57 : decode (mz_c M_x_collateral) 57 = .ok (.getfield 13, 3) := by decide +kernel
theorem d_x_collateral_60 : decode (mz_c M_x_collateral) 60 = .ok (.iload_n 1, 1) := by decide +kernel
theorem d_x_collateral_61 : decode (mz_c M_x_collateral) 61 = .ok (.iload_n 2, 1) := by decide +kernel
theorem d_x_collateral_62 : decode (mz_c M_x_collateral) 62 = .ok (.iastore, 1) := by decide +kernel
theorem d_x_collateral_63 : decode (mz_c M_x_collateral) 63 = .ok (.return_, 1) := by decide +kernel
theorem d_x_order_0 : decode (mz_c M_x_order) 0 = .ok (.iload_n 3, 1) := by decide +kernel
theorem d_x_order_1 : decode (mz_c M_x_order) 1 = .ok (.invokestatic 77, 3) := by decide +kernel
theorem d_x_order_4 : decode (mz_c M_x_order) 4 = .ok (.ifCond .ne 13, 3) := by decide +kernel
theorem d_x_order_7 : decode (mz_c M_x_order) 7 = .ok (.new 65, 3) := by decide +kernel
theorem d_x_order_10 : decode (mz_c M_x_order) 10 = .ok (.dup, 1) := by decide +kernel
theorem d_x_order_11 : decode (mz_c M_x_order) 11 = .ok (.ldc 80, 2) := by decide +kernel
theorem d_x_order_13 : decode (mz_c M_x_order) 13 = .ok (.invokespecial 69, 3) := by decide +kernel
theorem d_x_order_16 : decode (mz_c M_x_order) 16 = .ok (.athrow, 1) := by decide +kernel
theorem d_x_order_17 : decode (mz_c M_x_order) 17 = .ok (.aload_n 0, 1) := by decide +kernel
theorem d_x_order_18 : decode (mz_c M_x_order) 18 = .ok (.iload_n 1, 1) := by decide +kernel
theorem d_x_order_19 : decode (mz_c M_x_order) 19 = .ok (.iload_n 2, 1) := by decide +kernel
theorem d_x_order_20 : decode (mz_c M_x_order) 20 = .ok (.iload_n 3, 1) := by decide +kernel
theorem d_x_order_21 : decode (mz_c M_x_order) 21 = .ok (.iload 4, 2) := by decide +kernel
theorem d_x_order_23 : decode (mz_c M_x_order) 23 = .ok (.iload 5, 2) := by decide +kernel
theorem d_x_order_25 : decode (mz_c M_x_order) 25 = .ok (.iload 6, 2) := by decide +kernel
theorem d_x_order_27 : decode (mz_c M_x_order) 27 = .ok (.invokevirtual 82, 3) := by decide +kernel
theorem d_x_order_30 : decode (mz_c M_x_order) 30 = .ok (.ireturn, 1) := by decide +kernel
theorem d_x_block_0 : decode (mz_c M_x_block) 0 = .ok (.iload_n 3, 1) := by decide +kernel
theorem d_x_block_1 : decode (mz_c M_x_block) 1 = .ok (.invokestatic 86, 3) := by decide +kernel
theorem d_x_block_4 : decode (mz_c M_x_block) 4 = .ok (.ifCond .ne 13, 3) := by decide +kernel
theorem d_x_block_7 : decode (mz_c M_x_block) 7 = .ok (.new 65, 3) := by decide +kernel
theorem d_x_block_10 : decode (mz_c M_x_block) 10 = .ok (.dup, 1) := by decide +kernel
theorem d_x_block_11 : decode (mz_c M_x_block) 11 = .ok (.ldc 89, 2) := by decide +kernel
theorem d_x_block_13 : decode (mz_c M_x_block) 13 = .ok (.invokespecial 69, 3) := by decide +kernel
theorem d_x_block_16 : decode (mz_c M_x_block) 16 = .ok (.athrow, 1) := by decide +kernel
theorem d_x_block_17 : decode (mz_c M_x_block) 17 = .ok (.aload_n 0, 1) := by decide +kernel
theorem d_x_block_18 : decode (mz_c M_x_block) 18 = .ok (.iload_n 1, 1) := by decide +kernel
theorem d_x_block_19 : decode (mz_c M_x_block) 19 = .ok (.iload_n 2, 1) := by decide +kernel
theorem d_x_block_20 : decode (mz_c M_x_block) 20 = .ok (.bipush 100, 2) := by decide +kernel
theorem d_x_block_22 : decode (mz_c M_x_block) 22 = .ok (.iload_n 3, 1) := by decide +kernel
theorem d_x_block_23 : decode (mz_c M_x_block) 23 = .ok (.iadd, 1) := by decide +kernel
theorem d_x_block_24 : decode (mz_c M_x_block) 24 = .ok (.iload 4, 2) := by decide +kernel
theorem d_x_block_26 : decode (mz_c M_x_block) 26 = .ok (.iload 5, 2) := by decide +kernel
theorem d_x_block_28 : decode (mz_c M_x_block) 28 = .ok (.iload 6, 2) := by decide +kernel
theorem d_x_block_30 : decode (mz_c M_x_block) 30 = .ok (.invokevirtual 82, 3) := by decide +kernel
theorem d_x_block_33 : decode (mz_c M_x_block) 33 = .ok (.ireturn, 1) := by decide +kernel
theorem d_x_seal_0 : decode (mz_c M_x_seal) 0 = .ok (.aload_n 0, 1) := by decide +kernel
theorem d_x_seal_1 : decode (mz_c M_x_seal) 1 = .ok (.iload_n 1, 1) := by decide +kernel
theorem d_x_seal_2 : decode (mz_c M_x_seal) 2 = .ok (.invokevirtual 60, 3) := by decide +kernel
theorem d_x_seal_5 : decode (mz_c M_x_seal) 5 = .ok (.ifCond .ne 13, 3) := by decide +kernel
theorem d_x_seal_8 : decode (mz_c M_x_seal) 8 = .ok (.new 65, 3) := by decide +kernel
theorem d_x_seal_11 : decode (mz_c M_x_seal) 11 = .ok (.dup, 1) := by decide +kernel
theorem d_x_seal_12 : decode (mz_c M_x_seal) 12 = .ok (.ldc 91, 2) := by decide +kernel
theorem d_x_seal_14 : decode (mz_c M_x_seal) 14 = .ok (.invokespecial 69, 3) := by decide +kernel
theorem d_x_seal_17 : decode (mz_c M_x_seal) 17 = .ok (.athrow, 1) := by decide +kernel
theorem d_x_seal_18 : decode (mz_c M_x_seal) 18 = .ok (.aload_n 0, 1) := by decide +kernel
theorem d_x_seal_19 : decode (mz_c M_x_seal) 19 = .ok (.getfield 21, 3) := by decide +kernel
theorem d_x_seal_22 : decode (mz_c M_x_seal) 22 = .ok (.iload_n 1, 1) := by decide +kernel
theorem d_x_seal_23 : decode (mz_c M_x_seal) 23 = .ok (.baload, 1) := by decide +kernel
theorem d_x_seal_24 : decode (mz_c M_x_seal) 24 = .ok (.ifCond .eq 13, 3) := by decide +kernel
theorem d_x_seal_27 : decode (mz_c M_x_seal) 27 = .ok (.new 72, 3) := by decide +kernel
theorem d_x_seal_30 : decode (mz_c M_x_seal) 30 = .ok (.dup, 1) := by decide +kernel
theorem d_x_seal_31 : decode (mz_c M_x_seal) 31 = .ok (.ldc 93, 2) := by decide +kernel
theorem d_x_seal_33 : decode (mz_c M_x_seal) 33 = .ok (.invokespecial 76, 3) := by decide +kernel
theorem d_x_seal_36 : decode (mz_c M_x_seal) 36 = .ok (.athrow, 1) := by decide +kernel
theorem d_x_seal_37 : decode (mz_c M_x_seal) 37 = .ok (.aload_n 0, 1) := by decide +kernel
theorem d_x_seal_38 : decode (mz_c M_x_seal) 38 = .ok (.getfield 21, 3) := by decide +kernel
theorem d_x_seal_41 : decode (mz_c M_x_seal) 41 = .ok (.iload_n 1, 1) := by decide +kernel
theorem d_x_seal_42 : decode (mz_c M_x_seal) 42 = .ok (.iconst 1, 1) := by decide +kernel
theorem d_x_seal_43 : decode (mz_c M_x_seal) 43 = .ok (.bastore, 1) := by decide +kernel
theorem d_x_seal_44 : decode (mz_c M_x_seal) 44 = .ok (.aload_n 0, 1) := by decide +kernel
theorem d_x_seal_45 : decode (mz_c M_x_seal) 45 = .ok (.dup, 1) := by decide +kernel
theorem d_x_seal_46 : decode (mz_c M_x_seal) 46 = .ok (.getfield 57, 3) := by decide +kernel
theorem d_x_seal_49 : decode (mz_c M_x_seal) 49 = .ok (.iconst 1, 1) := by decide +kernel
theorem d_x_seal_50 : decode (mz_c M_x_seal) 50 = .ok (.iadd, 1) := by decide +kernel
theorem d_x_seal_51 : decode (mz_c M_x_seal) 51 = .ok (.putfield 57, 3) := by decide +kernel
theorem d_x_seal_54 : decode (mz_c M_x_seal) 54 = .ok (.aload_n 0, 1) := by decide +kernel
theorem d_x_seal_55 : decode (mz_c M_x_seal) 55 = .ok (.getfield 57, 3) := by decide +kernel
theorem d_x_seal_58 : decode (mz_c M_x_seal) 58 = .ok (.ireturn, 1) := by decide +kernel
theorem d_x_liar_0 : decode (mz_c M_x_liar) 0 = .ok (.iload_n 1, 1) := by decide +kernel
theorem d_x_liar_1 : decode (mz_c M_x_liar) 1 = .ok (.invokestatic 95, 3) := by decide +kernel
theorem d_x_liar_4 : decode (mz_c M_x_liar) 4 = .ok (.ifCond .ne 13, 3) := by decide +kernel
theorem d_x_liar_7 : decode (mz_c M_x_liar) 7 = .ok (.new 65, 3) := by decide +kernel
theorem d_x_liar_10 : decode (mz_c M_x_liar) 10 = .ok (.dup, 1) := by decide +kernel
theorem d_x_liar_11 : decode (mz_c M_x_liar) 11 = .ok (.ldc 98, 2) := by decide +kernel
theorem d_x_liar_13 : decode (mz_c M_x_liar) 13 = .ok (.invokespecial 69, 3) := by decide +kernel
theorem d_x_liar_16 : decode (mz_c M_x_liar) 16 = .ok (.athrow, 1) := by decide +kernel
theorem d_x_liar_17 : decode (mz_c M_x_liar) 17 = .ok (.aload_n 0, 1) := by decide +kernel
theorem d_x_liar_18 : decode (mz_c M_x_liar) 18 = .ok (.getfield 39, 3) := by decide +kernel
theorem d_x_liar_21 : decode (mz_c M_x_liar) 21 = .ok (.invokevirtual 100, 3) := by decide +kernel
theorem d_x_liar_24 : decode (mz_c M_x_liar) 24 = .ok (.ifCond .ne 13, 3) := by decide +kernel
theorem d_x_liar_27 : decode (mz_c M_x_liar) 27 = .ok (.aload_n 0, 1) := by decide +kernel
theorem d_x_liar_28 : decode (mz_c M_x_liar) 28 = .ok (.getfield 39, 3) := by decide +kernel
theorem d_x_liar_31 : decode (mz_c M_x_liar) 31 = .ok (.getfield 104, 3) := by decide +kernel
theorem d_x_liar_34 : decode (mz_c M_x_liar) 34 = .ok (.ifCond .le 13, 3) := by decide +kernel
theorem d_x_liar_37 : decode (mz_c M_x_liar) 37 = .ok (.new 72, 3) := by decide +kernel
theorem d_x_liar_40 : decode (mz_c M_x_liar) 40 = .ok (.dup, 1) := by decide +kernel
theorem d_x_liar_41 : decode (mz_c M_x_liar) 41 = .ok (.ldc 107, 2) := by decide +kernel
theorem d_x_liar_43 : decode (mz_c M_x_liar) 43 = .ok (.invokespecial 76, 3) := by decide +kernel
theorem d_x_liar_46 : decode (mz_c M_x_liar) 46 = .ok (.athrow, 1) := by decide +kernel
theorem d_x_liar_47 : decode (mz_c M_x_liar) 47 = .ok (.aload_n 0, 1) := by decide +kernel
theorem d_x_liar_48 : decode (mz_c M_x_liar) 48 = .ok (.getfield 39, 3) := by decide +kernel
theorem d_x_liar_51 : decode (mz_c M_x_liar) 51 = .ok (.iload_n 1, 1) := by decide +kernel
theorem d_x_liar_52 : decode (mz_c M_x_liar) 52 = .ok (.putfield 109, 3) := by decide +kernel
theorem d_x_liar_55 : decode (mz_c M_x_liar) 55 = .ok (.return_, 1) := by decide +kernel
theorem d_x_tell_0 : decode (mz_c M_x_tell) 0 = .ok (.iload_n 1, 1) := by decide +kernel
theorem d_x_tell_1 : decode (mz_c M_x_tell) 1 = .ok (.invokestatic 95, 3) := by decide +kernel
theorem d_x_tell_4 : decode (mz_c M_x_tell) 4 = .ok (.ifCond .eq 27, 3) := by decide +kernel
theorem d_x_tell_7 : decode (mz_c M_x_tell) 7 = .ok (.iload_n 2, 1) := by decide +kernel
theorem d_x_tell_8 : decode (mz_c M_x_tell) 8 = .ok (.invokestatic 95, 3) := by decide +kernel
theorem d_x_tell_11 : decode (mz_c M_x_tell) 11 = .ok (.ifCond .eq 20, 3) := by decide +kernel
theorem d_x_tell_14 : decode (mz_c M_x_tell) 14 = .ok (.aload_n 0, 1) := by decide +kernel
theorem d_x_tell_15 : decode (mz_c M_x_tell) 15 = .ok (.iload_n 3, 1) := by decide +kernel
theorem d_x_tell_16 : decode (mz_c M_x_tell) 16 = .ok (.invokevirtual 60, 3) := by decide +kernel
theorem d_x_tell_19 : decode (mz_c M_x_tell) 19 = .ok (.ifCond .eq 12, 3) := by decide +kernel
theorem d_x_tell_22 : decode (mz_c M_x_tell) 22 = .ok (.aload_n 0, 1) := by decide +kernel
theorem d_x_tell_23 : decode (mz_c M_x_tell) 23 = .ok (.iload 4, 2) := by decide +kernel
theorem d_x_tell_25 : decode (mz_c M_x_tell) 25 = .ok (.invokevirtual 112, 3) := by decide +kernel
theorem d_x_tell_28 : decode (mz_c M_x_tell) 28 = .ok (.ifCond .ne 13, 3) := by decide +kernel
theorem d_x_tell_31 : decode (mz_c M_x_tell) 31 = .ok (.new 65, 3) := by decide +kernel
theorem d_x_tell_34 : decode (mz_c M_x_tell) 34 = .ok (.dup, 1) := by decide +kernel
theorem d_x_tell_35 : decode (mz_c M_x_tell) 35 = .ok (.ldc 115, 2) := by decide +kernel
theorem d_x_tell_37 : decode (mz_c M_x_tell) 37 = .ok (.invokespecial 69, 3) := by decide +kernel
theorem d_x_tell_40 : decode (mz_c M_x_tell) 40 = .ok (.athrow, 1) := by decide +kernel
theorem d_x_tell_41 : decode (mz_c M_x_tell) 41 = .ok (.aload_n 0, 1) := by decide +kernel
theorem d_x_tell_42 : decode (mz_c M_x_tell) 42 = .ok (.getfield 39, 3) := by decide +kernel
theorem d_x_tell_45 : decode (mz_c M_x_tell) 45 = .ok (.invokevirtual 100, 3) := by decide +kernel
theorem d_x_tell_48 : decode (mz_c M_x_tell) 48 = .ok (.ifCond .eq 13, 3) := by decide +kernel
theorem d_x_tell_51 : decode (mz_c M_x_tell) 51 = .ok (.aload_n 0, 1) := by decide +kernel
theorem d_x_tell_52 : decode (mz_c M_x_tell) 52 = .ok (.getfield 39, 3) := by decide +kernel
theorem d_x_tell_55 : decode (mz_c M_x_tell) 55 = .ok (.invokevirtual 117, 3) := by decide +kernel
theorem d_x_tell_58 : decode (mz_c M_x_tell) 58 = .ok (.ifCond .ne 13, 3) := by decide +kernel
theorem d_x_tell_61 : decode (mz_c M_x_tell) 61 = .ok (.new 72, 3) := by decide +kernel
theorem d_x_tell_64 : decode (mz_c M_x_tell) 64 = .ok (.dup, 1) := by decide +kernel
theorem d_x_tell_65 : decode (mz_c M_x_tell) 65 = .ok (.ldc 120, 2) := by decide +kernel
theorem d_x_tell_67 : decode (mz_c M_x_tell) 67 = .ok (.invokespecial 76, 3) := by decide +kernel
theorem d_x_tell_70 : decode (mz_c M_x_tell) 70 = .ok (.athrow, 1) := by decide +kernel
theorem d_x_tell_71 : decode (mz_c M_x_tell) 71 = .ok (.aload_n 0, 1) := by decide +kernel
theorem d_x_tell_72 : decode (mz_c M_x_tell) 72 = .ok (.getfield 39, 3) := by decide +kernel
theorem d_x_tell_75 : decode (mz_c M_x_tell) 75 = .ok (.iload_n 1, 1) := by decide +kernel
theorem d_x_tell_76 : decode (mz_c M_x_tell) 76 = .ok (.iload_n 2, 1) := by decide +kernel
theorem d_x_tell_77 : decode (mz_c M_x_tell) 77 = .ok (.invokevirtual 122, 3) := by decide +kernel
theorem d_x_tell_80 : decode (mz_c M_x_tell) 80 = .ok (.ifCond .ne 13, 3) := by decide +kernel
theorem d_x_tell_83 : decode (mz_c M_x_tell) 83 = .ok (.new 65, 3) := by decide +kernel
theorem d_x_tell_86 : decode (mz_c M_x_tell) 86 = .ok (.dup, 1) := by decide +kernel
theorem d_x_tell_87 : decode (mz_c M_x_tell) 87 = .ok (.ldc 126, 2) := by decide +kernel
theorem d_x_tell_89 : decode (mz_c M_x_tell) 89 = .ok (.invokespecial 69, 3) := by decide +kernel
theorem d_x_tell_92 : decode (mz_c M_x_tell) 92 = .ok (.athrow, 1) := by decide +kernel
theorem d_x_tell_93 : decode (mz_c M_x_tell) 93 = .ok (.aload_n 0, 1) := by decide +kernel
theorem d_x_tell_94 : decode (mz_c M_x_tell) 94 = .ok (.getfield 39, 3) := by decide +kernel
theorem d_x_tell_97 : decode (mz_c M_x_tell) 97 = .ok (.iload_n 1, 1) := by decide +kernel
theorem d_x_tell_98 : decode (mz_c M_x_tell) 98 = .ok (.iload_n 2, 1) := by decide +kernel
theorem d_x_tell_99 : decode (mz_c M_x_tell) 99 = .ok (.iload_n 3, 1) := by decide +kernel
theorem d_x_tell_100 : decode (mz_c M_x_tell) 100 = .ok (.iload 4, 2) := by decide +kernel
theorem d_x_tell_102 : decode (mz_c M_x_tell) 102 = .ok (.iconst (-1), 1) := by decide +kernel
theorem d_x_tell_103 : decode (mz_c M_x_tell) 103 = .ok (.if_icmp .ne 8, 3) := by decide +kernel
theorem d_x_tell_106 : decode (mz_c M_x_tell) 106 = .ok (.bipush 24, 2) := by decide +kernel
theorem d_x_tell_108 : decode (mz_c M_x_tell) 108 = .ok (.goto 5, 3) := by decide +kernel
theorem d_x_tell_111 : decode (mz_c M_x_tell) 111 = .ok (.iload 4, 2) := by decide +kernel
theorem d_x_tell_113 : decode (mz_c M_x_tell) 113 = .ok (.invokevirtual 128, 3) := by decide +kernel
theorem d_x_tell_116 : decode (mz_c M_x_tell) 116 = .ok (.return_, 1) := by decide +kernel
theorem d_x_round_0 : decode (mz_c M_x_round) 0 = .ok (.aload_n 0, 1) := by decide +kernel
theorem d_x_round_1 : decode (mz_c M_x_round) 1 = .ok (.getfield 57, 3) := by decide +kernel
theorem d_x_round_4 : decode (mz_c M_x_round) 4 = .ok (.aload_n 0, 1) := by decide +kernel
theorem d_x_round_5 : decode (mz_c M_x_round) 5 = .ok (.getfield 9, 3) := by decide +kernel
theorem d_x_round_8 : decode (mz_c M_x_round) 8 = .ok (.if_icmp .lt 13, 3) := by decide +kernel
theorem d_x_round_11 : decode (mz_c M_x_round) 11 = .ok (.aload_n 0, 1) := by decide +kernel
theorem d_x_round_12 : decode (mz_c M_x_round) 12 = .ok (.getfield 39, 3) := by decide +kernel
theorem d_x_round_15 : decode (mz_c M_x_round) 15 = .ok (.invokevirtual 132, 3) := by decide +kernel
theorem d_x_round_18 : decode (mz_c M_x_round) 18 = .ok (.ifCond .eq 13, 3) := by decide +kernel
theorem d_x_round_21 : decode (mz_c M_x_round) 21 = .ok (.new 72, 3) := by decide +kernel
theorem d_x_round_24 : decode (mz_c M_x_round) 24 = .ok (.dup, 1) := by decide +kernel
theorem d_x_round_25 : decode (mz_c M_x_round) 25 = .ok (.ldc 135, 2) := by decide +kernel
theorem d_x_round_27 : decode (mz_c M_x_round) 27 = .ok (.invokespecial 76, 3) := by decide +kernel
theorem d_x_round_30 : decode (mz_c M_x_round) 30 = .ok (.athrow, 1) := by decide +kernel
theorem d_x_round_31 : decode (mz_c M_x_round) 31 = .ok (.aload_n 0, 1) := by decide +kernel
theorem d_x_round_32 : decode (mz_c M_x_round) 32 = .ok (.getfield 39, 3) := by decide +kernel
theorem d_x_round_35 : decode (mz_c M_x_round) 35 = .ok (.aload_n 0, 1) := by decide +kernel
theorem d_x_round_36 : decode (mz_c M_x_round) 36 = .ok (.getfield 9, 3) := by decide +kernel
theorem d_x_round_39 : decode (mz_c M_x_round) 39 = .ok (.invokevirtual 137, 3) := by decide +kernel
theorem d_x_round_42 : decode (mz_c M_x_round) 42 = .ok (.ireturn, 1) := by decide +kernel
theorem d_x_vector_0 : decode (mz_c M_x_vector) 0 = .ok (.aload_n 0, 1) := by decide +kernel
theorem d_x_vector_1 : decode (mz_c M_x_vector) 1 = .ok (.getfield 39, 3) := by decide +kernel
theorem d_x_vector_4 : decode (mz_c M_x_vector) 4 = .ok (.invokevirtual 132, 3) := by decide +kernel
theorem d_x_vector_7 : decode (mz_c M_x_vector) 7 = .ok (.ifCond .ne 13, 3) := by decide +kernel
theorem d_x_vector_10 : decode (mz_c M_x_vector) 10 = .ok (.new 72, 3) := by decide +kernel
theorem d_x_vector_13 : decode (mz_c M_x_vector) 13 = .ok (.dup, 1) := by decide +kernel
theorem d_x_vector_14 : decode (mz_c M_x_vector) 14 = .ok (.ldc 141, 2) := by decide +kernel
theorem d_x_vector_16 : decode (mz_c M_x_vector) 16 = .ok (.invokespecial 76, 3) := by decide +kernel
theorem d_x_vector_19 : decode (mz_c M_x_vector) 19 = .ok (.athrow, 1) := by decide +kernel
theorem d_x_vector_20 : decode (mz_c M_x_vector) 20 = .ok (.iload_n 1, 1) := by decide +kernel
theorem d_x_vector_21 : decode (mz_c M_x_vector) 21 = .ok (.invokestatic 95, 3) := by decide +kernel
theorem d_x_vector_24 : decode (mz_c M_x_vector) 24 = .ok (.ifCond .eq 22, 3) := by decide +kernel
theorem d_x_vector_27 : decode (mz_c M_x_vector) 27 = .ok (.aload_n 0, 1) := by decide +kernel
theorem d_x_vector_28 : decode (mz_c M_x_vector) 28 = .ok (.iload_n 2, 1) := by decide +kernel
theorem d_x_vector_29 : decode (mz_c M_x_vector) 29 = .ok (.invokevirtual 60, 3) := by decide +kernel
theorem d_x_vector_32 : decode (mz_c M_x_vector) 32 = .ok (.ifCond .eq 14, 3) := by decide +kernel
theorem d_x_vector_35 : decode (mz_c M_x_vector) 35 = .ok (.iload 4, 2) := by decide +kernel
theorem d_x_vector_37 : decode (mz_c M_x_vector) 37 = .ok (.ifCond .lt 9, 3) := by decide +kernel
theorem d_x_vector_40 : decode (mz_c M_x_vector) 40 = .ok (.iload 4, 2) := by decide +kernel
theorem d_x_vector_42 : decode (mz_c M_x_vector) 42 = .ok (.iconst 4, 1) := by decide +kernel
theorem d_x_vector_43 : decode (mz_c M_x_vector) 43 = .ok (.if_icmp .le 13, 3) := by decide +kernel
theorem d_x_vector_46 : decode (mz_c M_x_vector) 46 = .ok (.new 65, 3) := by decide +kernel
theorem d_x_vector_49 : decode (mz_c M_x_vector) 49 = .ok (.dup, 1) := by decide +kernel
theorem d_x_vector_50 : decode (mz_c M_x_vector) 50 = .ok (.ldc 143, 2) := by decide +kernel
theorem d_x_vector_52 : decode (mz_c M_x_vector) 52 = .ok (.invokespecial 69, 3) := by decide +kernel
theorem d_x_vector_55 : decode (mz_c M_x_vector) 55 = .ok (.athrow, 1) := by decide +kernel
theorem d_x_vector_56 : decode (mz_c M_x_vector) 56 = .ok (.aload_n 0, 1) := by decide +kernel
theorem d_x_vector_57 : decode (mz_c M_x_vector) 57 = .ok (.getfield 39, 3) := by decide +kernel
theorem d_x_vector_60 : decode (mz_c M_x_vector) 60 = .ok (.iload_n 1, 1) := by decide +kernel
theorem d_x_vector_61 : decode (mz_c M_x_vector) 61 = .ok (.iload_n 2, 1) := by decide +kernel
theorem d_x_vector_62 : decode (mz_c M_x_vector) 62 = .ok (.invokevirtual 145, 3) := by decide +kernel
theorem d_x_vector_65 : decode (mz_c M_x_vector) 65 = .ok (.istore 5, 2) := by decide +kernel
theorem d_x_vector_67 : decode (mz_c M_x_vector) 67 = .ok (.iload 4, 2) := by decide +kernel
theorem d_x_vector_69 : decode (mz_c M_x_vector) 69 = .ok (.iconst 4, 1) := by decide +kernel
theorem d_x_vector_70 : decode (mz_c M_x_vector) 70 = .ok (.if_icmp .ne 14, 3) := by decide +kernel
theorem d_x_vector_73 : decode (mz_c M_x_vector) 73 = .ok (.aload_n 0, 1) := by decide +kernel
theorem d_x_vector_74 : decode (mz_c M_x_vector) 74 = .ok (.getfield 30, 3) := by decide +kernel
theorem d_x_vector_77 : decode (mz_c M_x_vector) 77 = .ok (.getfield 149, 3) := by decide +kernel
theorem d_x_vector_80 : decode (mz_c M_x_vector) 80 = .ok (.iload 5, 2) := by decide +kernel
theorem d_x_vector_82 : decode (mz_c M_x_vector) 82 = .ok (.iaload, 1) := by decide +kernel
theorem d_x_vector_83 : decode (mz_c M_x_vector) 83 = .ok (.ireturn, 1) := by decide +kernel
theorem d_x_vector_84 : decode (mz_c M_x_vector) 84 = .ok (.iload_n 3, 1) := by decide +kernel
theorem d_x_vector_85 : decode (mz_c M_x_vector) 85 = .ok (.ifCond .lt 17, 3) := by decide +kernel
theorem d_x_vector_88 : decode (mz_c M_x_vector) 88 = .ok (.iload_n 3, 1) := by decide +kernel
theorem d_x_vector_89 : decode (mz_c M_x_vector) 89 = .ok (.aload_n 0, 1) := by decide +kernel
theorem d_x_vector_90 : decode (mz_c M_x_vector) 90 = .ok (.getfield 30, 3) := by decide +kernel
theorem d_x_vector_93 : decode (mz_c M_x_vector) 93 = .ok (.getfield 149, 3) := by decide +kernel
theorem d_x_vector_96 : decode (mz_c M_x_vector) 96 = .ok (.iload 5, 2) := by decide +kernel
theorem d_x_vector_98 : decode (mz_c M_x_vector) 98 = .ok (.iaload, 1) := by decide +kernel
theorem d_x_vector_99 : decode (mz_c M_x_vector) 99 = .ok (.if_icmp .lt 13, 3) := by decide +kernel
theorem d_x_vector_102 : decode (mz_c M_x_vector) 102 = .ok (.new 65, 3) := by decide +kernel
theorem d_x_vector_105 : decode (mz_c M_x_vector) 105 = .ok (.dup, 1) := by decide +kernel
theorem d_x_vector_106 : decode (mz_c M_x_vector) 106 = .ok (.ldc 152, 2) := by decide +kernel
theorem d_x_vector_108 : decode (mz_c M_x_vector) 108 = .ok (.invokespecial 69, 3) := by decide +kernel
theorem d_x_vector_111 : decode (mz_c M_x_vector) 111 = .ok (.athrow, 1) := by decide +kernel
theorem d_x_vector_112 : decode (mz_c M_x_vector) 112 = .ok (.aload_n 0, 1) := by decide +kernel
theorem d_x_vector_113 : decode (mz_c M_x_vector) 113 = .ok (.getfield 30, 3) := by decide +kernel
theorem d_x_vector_116 : decode (mz_c M_x_vector) 116 = .ok (.bipush 10, 2) := by decide +kernel
theorem d_x_vector_118 : decode (mz_c M_x_vector) 118 = .ok (.iload 5, 2) := by decide +kernel
theorem d_x_vector_120 : decode (mz_c M_x_vector) 120 = .ok (.imul, 1) := by decide +kernel
theorem d_x_vector_121 : decode (mz_c M_x_vector) 121 = .ok (.iload_n 3, 1) := by decide +kernel
theorem d_x_vector_122 : decode (mz_c M_x_vector) 122 = .ok (.iadd, 1) := by decide +kernel
theorem d_x_vector_123 : decode (mz_c M_x_vector) 123 = .ok (.iload 4, 2) := by decide +kernel
theorem d_x_vector_125 : decode (mz_c M_x_vector) 125 = .ok (.invokevirtual 154, 3) := by decide +kernel
theorem d_x_vector_128 : decode (mz_c M_x_vector) 128 = .ok (.ireturn, 1) := by decide +kernel
theorem d_x_clear_0 : decode (mz_c M_x_clear) 0 = .ok (.iload_n 1, 1) := by decide +kernel
theorem d_x_clear_1 : decode (mz_c M_x_clear) 1 = .ok (.invokestatic 95, 3) := by decide +kernel
theorem d_x_clear_4 : decode (mz_c M_x_clear) 4 = .ok (.ifCond .ne 13, 3) := by decide +kernel
theorem d_x_clear_7 : decode (mz_c M_x_clear) 7 = .ok (.new 65, 3) := by decide +kernel
theorem d_x_clear_10 : decode (mz_c M_x_clear) 10 = .ok (.dup, 1) := by decide +kernel
theorem d_x_clear_11 : decode (mz_c M_x_clear) 11 = .ok (.ldc 98, 2) := by decide +kernel
theorem d_x_clear_13 : decode (mz_c M_x_clear) 13 = .ok (.invokespecial 69, 3) := by decide +kernel
theorem d_x_clear_16 : decode (mz_c M_x_clear) 16 = .ok (.athrow, 1) := by decide +kernel
theorem d_x_clear_17 : decode (mz_c M_x_clear) 17 = .ok (.aload_n 0, 1) := by decide +kernel
theorem d_x_clear_18 : decode (mz_c M_x_clear) 18 = .ok (.getfield 39, 3) := by decide +kernel
theorem d_x_clear_21 : decode (mz_c M_x_clear) 21 = .ok (.invokevirtual 132, 3) := by decide +kernel
theorem d_x_clear_24 : decode (mz_c M_x_clear) 24 = .ok (.ifCond .ne 13, 3) := by decide +kernel
theorem d_x_clear_27 : decode (mz_c M_x_clear) 27 = .ok (.new 72, 3) := by decide +kernel
theorem d_x_clear_30 : decode (mz_c M_x_clear) 30 = .ok (.dup, 1) := by decide +kernel
theorem d_x_clear_31 : decode (mz_c M_x_clear) 31 = .ok (.ldc 141, 2) := by decide +kernel
theorem d_x_clear_33 : decode (mz_c M_x_clear) 33 = .ok (.invokespecial 76, 3) := by decide +kernel
theorem d_x_clear_36 : decode (mz_c M_x_clear) 36 = .ok (.athrow, 1) := by decide +kernel
theorem d_x_clear_37 : decode (mz_c M_x_clear) 37 = .ok (.aload_n 0, 1) := by decide +kernel
theorem d_x_clear_38 : decode (mz_c M_x_clear) 38 = .ok (.getfield 52, 3) := by decide +kernel
theorem d_x_clear_41 : decode (mz_c M_x_clear) 41 = .ok (.iload_n 1, 1) := by decide +kernel
theorem d_x_clear_42 : decode (mz_c M_x_clear) 42 = .ok (.aaload, 1) := by decide +kernel
theorem d_x_clear_43 : decode (mz_c M_x_clear) 43 = .ok (.getfield 157, 3) := by decide +kernel
theorem d_x_clear_46 : decode (mz_c M_x_clear) 46 = .ok (.ifCond .ne 32, 3) := by decide +kernel
theorem d_x_clear_49 : decode (mz_c M_x_clear) 49 = .ok (.aload_n 0, 1) := by decide +kernel
theorem d_x_clear_50 : decode (mz_c M_x_clear) 50 = .ok (.getfield 46, 3) := by decide +kernel
theorem d_x_clear_53 : decode (mz_c M_x_clear) 53 = .ok (.aload_n 0, 1) := by decide +kernel
theorem d_x_clear_54 : decode (mz_c M_x_clear) 54 = .ok (.getfield 39, 3) := by decide +kernel
theorem d_x_clear_57 : decode (mz_c M_x_clear) 57 = .ok (.iload_n 1, 1) := by decide +kernel
theorem d_x_clear_58 : decode (mz_c M_x_clear) 58 = .ok (.aload_n 0, 1) := by decide +kernel
theorem d_x_clear_59 : decode (mz_c M_x_clear) 59 = .ok (.getfield 9, 3) := by decide +kernel
theorem d_x_clear_62 : decode (mz_c M_x_clear) 62 = .ok (.invokevirtual 161, 3) := by decide +kernel
theorem d_x_clear_65 : decode (mz_c M_x_clear) 65 = .ok (.aload_n 0, 1) := by decide +kernel
theorem d_x_clear_66 : decode (mz_c M_x_clear) 66 = .ok (.getfield 46, 3) := by decide +kernel
theorem d_x_clear_69 : decode (mz_c M_x_clear) 69 = .ok (.aload_n 0, 1) := by decide +kernel
theorem d_x_clear_70 : decode (mz_c M_x_clear) 70 = .ok (.getfield 52, 3) := by decide +kernel
theorem d_x_clear_73 : decode (mz_c M_x_clear) 73 = .ok (.iload_n 1, 1) := by decide +kernel
theorem d_x_clear_74 : decode (mz_c M_x_clear) 74 = .ok (.aaload, 1) := by decide +kernel
theorem d_x_clear_75 : decode (mz_c M_x_clear) 75 = .ok (.invokevirtual 165, 3) := by decide +kernel
theorem d_x_clear_78 : decode (mz_c M_x_clear) 78 = .ok (.aload_n 0, 1) := by decide +kernel
theorem d_x_clear_79 : decode (mz_c M_x_clear) 79 = .ok (.getfield 52, 3) := by decide +kernel
theorem d_x_clear_82 : decode (mz_c M_x_clear) 82 = .ok (.iload_n 1, 1) := by decide +kernel
theorem d_x_clear_83 : decode (mz_c M_x_clear) 83 = .ok (.aaload, 1) := by decide +kernel
theorem d_x_clear_84 : decode (mz_c M_x_clear) 84 = .ok (.getfield 169, 3) := by decide +kernel
theorem d_x_clear_87 : decode (mz_c M_x_clear) 87 = .ok (.ireturn, 1) := by decide +kernel
theorem d_x_price_0 : decode (mz_c M_x_price) 0 = .ok (.iload_n 1, 1) := by decide +kernel
theorem d_x_price_1 : decode (mz_c M_x_price) 1 = .ok (.invokestatic 95, 3) := by decide +kernel
theorem d_x_price_4 : decode (mz_c M_x_price) 4 = .ok (.ifCond .eq 10, 3) := by decide +kernel
theorem d_x_price_7 : decode (mz_c M_x_price) 7 = .ok (.iload_n 2, 1) := by decide +kernel
theorem d_x_price_8 : decode (mz_c M_x_price) 8 = .ok (.invokestatic 77, 3) := by decide +kernel
theorem d_x_price_11 : decode (mz_c M_x_price) 11 = .ok (.ifCond .ne 13, 3) := by decide +kernel
theorem d_x_price_14 : decode (mz_c M_x_price) 14 = .ok (.new 65, 3) := by decide +kernel
theorem d_x_price_17 : decode (mz_c M_x_price) 17 = .ok (.dup, 1) := by decide +kernel
theorem d_x_price_18 : decode (mz_c M_x_price) 18 = .ok (.ldc 172, 2) := by decide +kernel
theorem d_x_price_20 : decode (mz_c M_x_price) 20 = .ok (.invokespecial 69, 3) := by decide +kernel
theorem d_x_price_23 : decode (mz_c M_x_price) 23 = .ok (.athrow, 1) := by decide +kernel
theorem d_x_price_24 : decode (mz_c M_x_price) 24 = .ok (.aload_n 0, 1) := by decide +kernel
theorem d_x_price_25 : decode (mz_c M_x_price) 25 = .ok (.iload_n 1, 1) := by decide +kernel
theorem d_x_price_26 : decode (mz_c M_x_price) 26 = .ok (.invokevirtual 174, 3) := by decide +kernel
theorem d_x_price_29 : decode (mz_c M_x_price) 29 = .ok (.getfield 178, 3) := by decide +kernel
theorem d_x_price_32 : decode (mz_c M_x_price) 32 = .ok (.iload_n 2, 1) := by decide +kernel
theorem d_x_price_33 : decode (mz_c M_x_price) 33 = .ok (.iaload, 1) := by decide +kernel
theorem d_x_price_34 : decode (mz_c M_x_price) 34 = .ok (.ireturn, 1) := by decide +kernel
theorem d_x_traded_0 : decode (mz_c M_x_traded) 0 = .ok (.iload_n 1, 1) := by decide +kernel
theorem d_x_traded_1 : decode (mz_c M_x_traded) 1 = .ok (.invokestatic 95, 3) := by decide +kernel
theorem d_x_traded_4 : decode (mz_c M_x_traded) 4 = .ok (.ifCond .eq 10, 3) := by decide +kernel
theorem d_x_traded_7 : decode (mz_c M_x_traded) 7 = .ok (.iload_n 2, 1) := by decide +kernel
theorem d_x_traded_8 : decode (mz_c M_x_traded) 8 = .ok (.invokestatic 77, 3) := by decide +kernel
theorem d_x_traded_11 : decode (mz_c M_x_traded) 11 = .ok (.ifCond .ne 13, 3) := by decide +kernel
theorem d_x_traded_14 : decode (mz_c M_x_traded) 14 = .ok (.new 65, 3) := by decide +kernel
theorem d_x_traded_17 : decode (mz_c M_x_traded) 17 = .ok (.dup, 1) := by decide +kernel
theorem d_x_traded_18 : decode (mz_c M_x_traded) 18 = .ok (.ldc 172, 2) := by decide +kernel
theorem d_x_traded_20 : decode (mz_c M_x_traded) 20 = .ok (.invokespecial 69, 3) := by decide +kernel
theorem d_x_traded_23 : decode (mz_c M_x_traded) 23 = .ok (.athrow, 1) := by decide +kernel
theorem d_x_traded_24 : decode (mz_c M_x_traded) 24 = .ok (.aload_n 0, 1) := by decide +kernel
theorem d_x_traded_25 : decode (mz_c M_x_traded) 25 = .ok (.iload_n 1, 1) := by decide +kernel
theorem d_x_traded_26 : decode (mz_c M_x_traded) 26 = .ok (.invokevirtual 174, 3) := by decide +kernel
theorem d_x_traded_29 : decode (mz_c M_x_traded) 29 = .ok (.getfield 181, 3) := by decide +kernel
theorem d_x_traded_32 : decode (mz_c M_x_traded) 32 = .ok (.iload_n 2, 1) := by decide +kernel
theorem d_x_traded_33 : decode (mz_c M_x_traded) 33 = .ok (.iaload, 1) := by decide +kernel
theorem d_x_traded_34 : decode (mz_c M_x_traded) 34 = .ok (.ireturn, 1) := by decide +kernel
theorem d_x_fill_0 : decode (mz_c M_x_fill) 0 = .ok (.iload_n 1, 1) := by decide +kernel
theorem d_x_fill_1 : decode (mz_c M_x_fill) 1 = .ok (.invokestatic 95, 3) := by decide +kernel
theorem d_x_fill_4 : decode (mz_c M_x_fill) 4 = .ok (.ifCond .eq 21, 3) := by decide +kernel
theorem d_x_fill_7 : decode (mz_c M_x_fill) 7 = .ok (.aload_n 0, 1) := by decide +kernel
theorem d_x_fill_8 : decode (mz_c M_x_fill) 8 = .ok (.iload_n 2, 1) := by decide +kernel
theorem d_x_fill_9 : decode (mz_c M_x_fill) 9 = .ok (.invokevirtual 60, 3) := by decide +kernel
theorem d_x_fill_12 : decode (mz_c M_x_fill) 12 = .ok (.ifCond .eq 13, 3) := by decide +kernel
theorem d_x_fill_15 : decode (mz_c M_x_fill) 15 = .ok (.iload_n 3, 1) := by decide +kernel
theorem d_x_fill_16 : decode (mz_c M_x_fill) 16 = .ok (.ifCond .lt 9, 3) := by decide +kernel
theorem d_x_fill_19 : decode (mz_c M_x_fill) 19 = .ok (.iload_n 3, 1) := by decide +kernel
theorem d_x_fill_20 : decode (mz_c M_x_fill) 20 = .ok (.bipush 10, 2) := by decide +kernel
theorem d_x_fill_22 : decode (mz_c M_x_fill) 22 = .ok (.if_icmp .lt 13, 3) := by decide +kernel
theorem d_x_fill_25 : decode (mz_c M_x_fill) 25 = .ok (.new 65, 3) := by decide +kernel
theorem d_x_fill_28 : decode (mz_c M_x_fill) 28 = .ok (.dup, 1) := by decide +kernel
theorem d_x_fill_29 : decode (mz_c M_x_fill) 29 = .ok (.ldc 184, 2) := by decide +kernel
theorem d_x_fill_31 : decode (mz_c M_x_fill) 31 = .ok (.invokespecial 69, 3) := by decide +kernel
theorem d_x_fill_34 : decode (mz_c M_x_fill) 34 = .ok (.athrow, 1) := by decide +kernel
theorem d_x_fill_35 : decode (mz_c M_x_fill) 35 = .ok (.aload_n 0, 1) := by decide +kernel
theorem d_x_fill_36 : decode (mz_c M_x_fill) 36 = .ok (.iload_n 1, 1) := by decide +kernel
theorem d_x_fill_37 : decode (mz_c M_x_fill) 37 = .ok (.invokevirtual 174, 3) := by decide +kernel
theorem d_x_fill_40 : decode (mz_c M_x_fill) 40 = .ok (.astore 4, 2) := by decide +kernel
theorem d_x_fill_42 : decode (mz_c M_x_fill) 42 = .ok (.iload_n 3, 1) := by decide +kernel
theorem d_x_fill_43 : decode (mz_c M_x_fill) 43 = .ok (.aload_n 0, 1) := by decide +kernel
theorem d_x_fill_44 : decode (mz_c M_x_fill) 44 = .ok (.getfield 30, 3) := by decide +kernel
theorem d_x_fill_47 : decode (mz_c M_x_fill) 47 = .ok (.getfield 149, 3) := by decide +kernel
theorem d_x_fill_50 : decode (mz_c M_x_fill) 50 = .ok (.aload_n 0, 1) := by decide +kernel
theorem d_x_fill_51 : decode (mz_c M_x_fill) 51 = .ok (.getfield 39, 3) := by decide +kernel
theorem d_x_fill_54 : decode (mz_c M_x_fill) 54 = .ok (.iload_n 1, 1) := by decide +kernel
theorem d_x_fill_55 : decode (mz_c M_x_fill) 55 = .ok (.iload_n 2, 1) := by decide +kernel
theorem d_x_fill_56 : decode (mz_c M_x_fill) 56 = .ok (.invokevirtual 145, 3) := by decide +kernel
theorem d_x_fill_59 : decode (mz_c M_x_fill) 59 = .ok (.iaload, 1) := by decide +kernel
theorem d_x_fill_60 : decode (mz_c M_x_fill) 60 = .ok (.if_icmp .lt 13, 3) := by decide +kernel
theorem d_x_fill_63 : decode (mz_c M_x_fill) 63 = .ok (.new 65, 3) := by decide +kernel
theorem d_x_fill_66 : decode (mz_c M_x_fill) 66 = .ok (.dup, 1) := by decide +kernel
theorem d_x_fill_67 : decode (mz_c M_x_fill) 67 = .ok (.ldc 186, 2) := by decide +kernel
theorem d_x_fill_69 : decode (mz_c M_x_fill) 69 = .ok (.invokespecial 69, 3) := by decide +kernel
theorem d_x_fill_72 : decode (mz_c M_x_fill) 72 = .ok (.athrow, 1) := by decide +kernel
theorem d_x_fill_73 : decode (mz_c M_x_fill) 73 = .ok (.aload 4, 2) := by decide +kernel
theorem d_x_fill_75 : decode (mz_c M_x_fill) 75 = .ok (.getfield 188, 3) := by decide +kernel
theorem d_x_fill_78 : decode (mz_c M_x_fill) 78 = .ok (.bipush 10, 2) := by decide +kernel
theorem d_x_fill_80 : decode (mz_c M_x_fill) 80 = .ok (.iload_n 2, 1) := by decide +kernel
theorem d_x_fill_81 : decode (mz_c M_x_fill) 81 = .ok (.imul, 1) := by decide +kernel
theorem d_x_fill_82 : decode (mz_c M_x_fill) 82 = .ok (.iload_n 3, 1) := by decide +kernel
theorem d_x_fill_83 : decode (mz_c M_x_fill) 83 = .ok (.iadd, 1) := by decide +kernel
theorem d_x_fill_84 : decode (mz_c M_x_fill) 84 = .ok (.iaload, 1) := by decide +kernel
theorem d_x_fill_85 : decode (mz_c M_x_fill) 85 = .ok (.ireturn, 1) := by decide +kernel
theorem d_x_welfare_0 : decode (mz_c M_x_welfare) 0 = .ok (.iload_n 1, 1) := by decide +kernel
theorem d_x_welfare_1 : decode (mz_c M_x_welfare) 1 = .ok (.invokestatic 95, 3) := by decide +kernel
theorem d_x_welfare_4 : decode (mz_c M_x_welfare) 4 = .ok (.ifCond .ne 13, 3) := by decide +kernel
theorem d_x_welfare_7 : decode (mz_c M_x_welfare) 7 = .ok (.new 65, 3) := by decide +kernel
theorem d_x_welfare_10 : decode (mz_c M_x_welfare) 10 = .ok (.dup, 1) := by decide +kernel
theorem d_x_welfare_11 : decode (mz_c M_x_welfare) 11 = .ok (.ldc 98, 2) := by decide +kernel
theorem d_x_welfare_13 : decode (mz_c M_x_welfare) 13 = .ok (.invokespecial 69, 3) := by decide +kernel
theorem d_x_welfare_16 : decode (mz_c M_x_welfare) 16 = .ok (.athrow, 1) := by decide +kernel
theorem d_x_welfare_17 : decode (mz_c M_x_welfare) 17 = .ok (.aload_n 0, 1) := by decide +kernel
theorem d_x_welfare_18 : decode (mz_c M_x_welfare) 18 = .ok (.iload_n 1, 1) := by decide +kernel
theorem d_x_welfare_19 : decode (mz_c M_x_welfare) 19 = .ok (.invokevirtual 174, 3) := by decide +kernel
theorem d_x_welfare_22 : decode (mz_c M_x_welfare) 22 = .ok (.getfield 191, 3) := by decide +kernel
theorem d_x_welfare_25 : decode (mz_c M_x_welfare) 25 = .ok (.lreturn, 1) := by decide +kernel
theorem d_x_meter_0 : decode (mz_c M_x_meter) 0 = .ok (.aload_n 0, 1) := by decide +kernel
theorem d_x_meter_1 : decode (mz_c M_x_meter) 1 = .ok (.iload_n 1, 1) := by decide +kernel
theorem d_x_meter_2 : decode (mz_c M_x_meter) 2 = .ok (.invokevirtual 60, 3) := by decide +kernel
theorem d_x_meter_5 : decode (mz_c M_x_meter) 5 = .ok (.ifCond .eq 22, 3) := by decide +kernel
theorem d_x_meter_8 : decode (mz_c M_x_meter) 8 = .ok (.iload_n 2, 1) := by decide +kernel
theorem d_x_meter_9 : decode (mz_c M_x_meter) 9 = .ok (.invokestatic 77, 3) := by decide +kernel
theorem d_x_meter_12 : decode (mz_c M_x_meter) 12 = .ok (.ifCond .eq 15, 3) := by decide +kernel
theorem d_x_meter_15 : decode (mz_c M_x_meter) 15 = .ok (.iload_n 3, 1) := by decide +kernel
theorem d_x_meter_16 : decode (mz_c M_x_meter) 16 = .ok (.ldc 195, 2) := by decide +kernel
theorem d_x_meter_18 : decode (mz_c M_x_meter) 18 = .ok (.if_icmp .lt 9, 3) := by decide +kernel
theorem d_x_meter_21 : decode (mz_c M_x_meter) 21 = .ok (.iload_n 3, 1) := by decide +kernel
theorem d_x_meter_22 : decode (mz_c M_x_meter) 22 = .ok (.ldc 196, 2) := by decide +kernel
theorem d_x_meter_24 : decode (mz_c M_x_meter) 24 = .ok (.if_icmp .le 13, 3) := by decide +kernel
theorem d_x_meter_27 : decode (mz_c M_x_meter) 27 = .ok (.new 65, 3) := by decide +kernel
theorem d_x_meter_30 : decode (mz_c M_x_meter) 30 = .ok (.dup, 1) := by decide +kernel
theorem d_x_meter_31 : decode (mz_c M_x_meter) 31 = .ok (.ldc 197, 2) := by decide +kernel
theorem d_x_meter_33 : decode (mz_c M_x_meter) 33 = .ok (.invokespecial 69, 3) := by decide +kernel
theorem d_x_meter_36 : decode (mz_c M_x_meter) 36 = .ok (.athrow, 1) := by decide +kernel
theorem d_x_meter_37 : decode (mz_c M_x_meter) 37 = .ok (.aload_n 0, 1) := by decide +kernel
theorem d_x_meter_38 : decode (mz_c M_x_meter) 38 = .ok (.getfield 24, 3) := by decide +kernel
theorem d_x_meter_41 : decode (mz_c M_x_meter) 41 = .ok (.iconst 3, 1) := by decide +kernel
theorem d_x_meter_42 : decode (mz_c M_x_meter) 42 = .ok (.iload_n 1, 1) := by decide +kernel
theorem d_x_meter_43 : decode (mz_c M_x_meter) 43 = .ok (.imul, 1) := by decide +kernel
theorem d_x_meter_44 : decode (mz_c M_x_meter) 44 = .ok (.iload_n 2, 1) := by decide +kernel
theorem d_x_meter_45 : decode (mz_c M_x_meter) 45 = .ok (.iadd, 1) := by decide +kernel
theorem d_x_meter_46 : decode (mz_c M_x_meter) 46 = .ok (.iload_n 3, 1) := by decide +kernel
theorem d_x_meter_47 : decode (mz_c M_x_meter) 47 = .ok (.iastore, 1) := by decide +kernel
theorem d_x_meter_48 : decode (mz_c M_x_meter) 48 = .ok (.return_, 1) := by decide +kernel
theorem d_x_balance_0 : decode (mz_c M_x_balance) 0 = .ok (.iload_n 1, 1) := by decide +kernel
theorem d_x_balance_1 : decode (mz_c M_x_balance) 1 = .ok (.invokestatic 95, 3) := by decide +kernel
theorem d_x_balance_4 : decode (mz_c M_x_balance) 4 = .ok (.ifCond .eq 16, 3) := by decide +kernel
theorem d_x_balance_7 : decode (mz_c M_x_balance) 7 = .ok (.iload_n 2, 1) := by decide +kernel
theorem d_x_balance_8 : decode (mz_c M_x_balance) 8 = .ok (.iconst (-1), 1) := by decide +kernel
theorem d_x_balance_9 : decode (mz_c M_x_balance) 9 = .ok (.if_icmp .eq 21, 3) := by decide +kernel
theorem d_x_balance_12 : decode (mz_c M_x_balance) 12 = .ok (.aload_n 0, 1) := by decide +kernel
theorem d_x_balance_13 : decode (mz_c M_x_balance) 13 = .ok (.iload_n 2, 1) := by decide +kernel
theorem d_x_balance_14 : decode (mz_c M_x_balance) 14 = .ok (.invokevirtual 60, 3) := by decide +kernel
theorem d_x_balance_17 : decode (mz_c M_x_balance) 17 = .ok (.ifCond .ne 13, 3) := by decide +kernel
theorem d_x_balance_20 : decode (mz_c M_x_balance) 20 = .ok (.new 65, 3) := by decide +kernel
theorem d_x_balance_23 : decode (mz_c M_x_balance) 23 = .ok (.dup, 1) := by decide +kernel
theorem d_x_balance_24 : decode (mz_c M_x_balance) 24 = .ok (.ldc 199, 2) := by decide +kernel
theorem d_x_balance_26 : decode (mz_c M_x_balance) 26 = .ok (.invokespecial 69, 3) := by decide +kernel
theorem d_x_balance_29 : decode (mz_c M_x_balance) 29 = .ok (.athrow, 1) := by decide +kernel
theorem d_x_balance_30 : decode (mz_c M_x_balance) 30 = .ok (.aload_n 0, 1) := by decide +kernel
theorem d_x_balance_31 : decode (mz_c M_x_balance) 31 = .ok (.iload_n 1, 1) := by decide +kernel
theorem d_x_balance_32 : decode (mz_c M_x_balance) 32 = .ok (.invokevirtual 174, 3) := by decide +kernel
theorem d_x_balance_35 : decode (mz_c M_x_balance) 35 = .ok (.astore_n 3, 1) := by decide +kernel
theorem d_x_balance_36 : decode (mz_c M_x_balance) 36 = .ok (.iload_n 2, 1) := by decide +kernel
theorem d_x_balance_37 : decode (mz_c M_x_balance) 37 = .ok (.iconst (-1), 1) := by decide +kernel
theorem d_x_balance_38 : decode (mz_c M_x_balance) 38 = .ok (.if_icmp .eq 11, 3) := by decide +kernel
theorem d_x_balance_41 : decode (mz_c M_x_balance) 41 = .ok (.aload_n 0, 1) := by decide +kernel
theorem d_x_balance_42 : decode (mz_c M_x_balance) 42 = .ok (.aload_n 3, 1) := by decide +kernel
theorem d_x_balance_43 : decode (mz_c M_x_balance) 43 = .ok (.iload_n 1, 1) := by decide +kernel
theorem d_x_balance_44 : decode (mz_c M_x_balance) 44 = .ok (.iload_n 2, 1) := by decide +kernel
theorem d_x_balance_45 : decode (mz_c M_x_balance) 45 = .ok (.invokevirtual 201, 3) := by decide +kernel
theorem d_x_balance_48 : decode (mz_c M_x_balance) 48 = .ok (.lreturn, 1) := by decide +kernel
theorem d_x_balance_49 : decode (mz_c M_x_balance) 49 = .ok (.lconst 0, 1) := by decide +kernel
theorem d_x_balance_50 : decode (mz_c M_x_balance) 50 = .ok (.lstore 4, 2) := by decide +kernel
theorem d_x_balance_52 : decode (mz_c M_x_balance) 52 = .ok (.iconst 0, 1) := by decide +kernel
theorem d_x_balance_53 : decode (mz_c M_x_balance) 53 = .ok (.istore 6, 2) := by decide +kernel
theorem d_x_balance_55 : decode (mz_c M_x_balance) 55 = .ok (.iload 6, 2) := by decide +kernel
theorem d_x_balance_57 : decode (mz_c M_x_balance) 57 = .ok (.aload_n 0, 1) := by decide +kernel
theorem d_x_balance_58 : decode (mz_c M_x_balance) 58 = .ok (.getfield 9, 3) := by decide +kernel
theorem d_x_balance_61 : decode (mz_c M_x_balance) 61 = .ok (.if_icmp .ge 22, 3) := by decide +kernel
theorem d_x_balance_64 : decode (mz_c M_x_balance) 64 = .ok (.lload 4, 2) := by decide +kernel
theorem d_x_balance_66 : decode (mz_c M_x_balance) 66 = .ok (.aload_n 0, 1) := by decide +kernel
theorem d_x_balance_67 : decode (mz_c M_x_balance) 67 = .ok (.aload_n 3, 1) := by decide +kernel
theorem d_x_balance_68 : decode (mz_c M_x_balance) 68 = .ok (.iload_n 1, 1) := by decide +kernel
theorem d_x_balance_69 : decode (mz_c M_x_balance) 69 = .ok (.iload 6, 2) := by decide +kernel
theorem d_x_balance_71 : decode (mz_c M_x_balance) 71 = .ok (.invokevirtual 201, 3) := by decide +kernel
theorem d_x_balance_74 : decode (mz_c M_x_balance) 74 = .ok (.lsub, 1) := by decide +kernel
theorem d_x_balance_75 : decode (mz_c M_x_balance) 75 = .ok (.lstore 4, 2) := by decide +kernel
theorem d_x_balance_77 : decode (mz_c M_x_balance) 77 = .ok (.iinc 6 1, 3) := by decide +kernel
theorem d_x_balance_80 : decode (mz_c M_x_balance) 80 = .ok (.goto (-25), 3) := by decide +kernel
theorem d_x_balance_83 : decode (mz_c M_x_balance) 83 = .ok (.lload 4, 2) := by decide +kernel
theorem d_x_balance_85 : decode (mz_c M_x_balance) 85 = .ok (.lreturn, 1) := by decide +kernel
theorem d_x_nextDay_0 : decode (mz_c M_x_nextDay) 0 = .ok (.iconst 0, 1) := by decide +kernel
theorem d_x_nextDay_1 : decode (mz_c M_x_nextDay) 1 = .ok (.istore_n 1, 1) := by decide +kernel
theorem d_x_nextDay_2 : decode (mz_c M_x_nextDay) 2 = .ok (.iload_n 1, 1) := by decide +kernel
theorem d_x_nextDay_3 : decode (mz_c M_x_nextDay) 3 = .ok (.bipush 6, 2) := by decide +kernel
theorem d_x_nextDay_5 : decode (mz_c M_x_nextDay) 5 = .ok (.if_icmp .ge 23, 3) := by decide +kernel
theorem d_x_nextDay_8 : decode (mz_c M_x_nextDay) 8 = .ok (.aload_n 0, 1) := by decide +kernel
theorem d_x_nextDay_9 : decode (mz_c M_x_nextDay) 9 = .ok (.getfield 17, 3) := by decide +kernel
theorem d_x_nextDay_12 : decode (mz_c M_x_nextDay) 12 = .ok (.iload_n 1, 1) := by decide +kernel
theorem d_x_nextDay_13 : decode (mz_c M_x_nextDay) 13 = .ok (.iconst 0, 1) := by decide +kernel
theorem d_x_nextDay_14 : decode (mz_c M_x_nextDay) 14 = .ok (.bastore, 1) := by decide +kernel
theorem d_x_nextDay_15 : decode (mz_c M_x_nextDay) 15 = .ok (.aload_n 0, 1) := by decide +kernel
theorem d_x_nextDay_16 : decode (mz_c M_x_nextDay) 16 = .ok (.getfield 21, 3) := by decide +kernel
theorem d_x_nextDay_19 : decode (mz_c M_x_nextDay) 19 = .ok (.iload_n 1, 1) := by decide +kernel
theorem d_x_nextDay_20 : decode (mz_c M_x_nextDay) 20 = .ok (.iconst 0, 1) := by decide +kernel
theorem d_x_nextDay_21 : decode (mz_c M_x_nextDay) 21 = .ok (.bastore, 1) := by decide +kernel
theorem d_x_nextDay_22 : decode (mz_c M_x_nextDay) 22 = .ok (.iinc 1 1, 3) := by decide +kernel
theorem d_x_nextDay_25 : decode (mz_c M_x_nextDay) 25 = .ok (.goto (-23), 3) := by decide +kernel
theorem d_x_nextDay_28 : decode (mz_c M_x_nextDay) 28 = .ok (.aload_n 0, 1) := by decide +kernel
theorem d_x_nextDay_29 : decode (mz_c M_x_nextDay) 29 = .ok (.iconst 0, 1) := by decide +kernel
theorem d_x_nextDay_30 : decode (mz_c M_x_nextDay) 30 = .ok (.putfield 57, 3) := by decide +kernel
theorem d_x_nextDay_33 : decode (mz_c M_x_nextDay) 33 = .ok (.iconst 0, 1) := by decide +kernel
theorem d_x_nextDay_34 : decode (mz_c M_x_nextDay) 34 = .ok (.istore_n 1, 1) := by decide +kernel
theorem d_x_nextDay_35 : decode (mz_c M_x_nextDay) 35 = .ok (.iload_n 1, 1) := by decide +kernel
theorem d_x_nextDay_36 : decode (mz_c M_x_nextDay) 36 = .ok (.aload_n 0, 1) := by decide +kernel
theorem d_x_nextDay_37 : decode (mz_c M_x_nextDay) 37 = .ok (.getfield 24, 3) := by decide +kernel
theorem d_x_nextDay_40 : decode (mz_c M_x_nextDay) 40 = .ok (.arraylength, 1) := by decide +kernel
theorem d_x_nextDay_41 : decode (mz_c M_x_nextDay) 41 = .ok (.if_icmp .ge 16, 3) := by decide +kernel
theorem d_x_nextDay_44 : decode (mz_c M_x_nextDay) 44 = .ok (.aload_n 0, 1) := by decide +kernel
theorem d_x_nextDay_45 : decode (mz_c M_x_nextDay) 45 = .ok (.getfield 24, 3) := by decide +kernel
theorem d_x_nextDay_48 : decode (mz_c M_x_nextDay) 48 = .ok (.iload_n 1, 1) := by decide +kernel
theorem d_x_nextDay_49 : decode (mz_c M_x_nextDay) 49 = .ok (.iconst 0, 1) := by decide +kernel
theorem d_x_nextDay_50 : decode (mz_c M_x_nextDay) 50 = .ok (.iastore, 1) := by decide +kernel
theorem d_x_nextDay_51 : decode (mz_c M_x_nextDay) 51 = .ok (.iinc 1 1, 3) := by decide +kernel
theorem d_x_nextDay_54 : decode (mz_c M_x_nextDay) 54 = .ok (.goto (-19), 3) := by decide +kernel
theorem d_x_nextDay_57 : decode (mz_c M_x_nextDay) 57 = .ok (.aload_n 0, 1) := by decide +kernel
theorem d_x_nextDay_58 : decode (mz_c M_x_nextDay) 58 = .ok (.getfield 30, 3) := by decide +kernel
theorem d_x_nextDay_61 : decode (mz_c M_x_nextDay) 61 = .ok (.invokevirtual 205, 3) := by decide +kernel
theorem d_x_nextDay_64 : decode (mz_c M_x_nextDay) 64 = .ok (.aload_n 0, 1) := by decide +kernel
theorem d_x_nextDay_65 : decode (mz_c M_x_nextDay) 65 = .ok (.getfield 39, 3) := by decide +kernel
theorem d_x_nextDay_68 : decode (mz_c M_x_nextDay) 68 = .ok (.invokevirtual 208, 3) := by decide +kernel
theorem d_x_nextDay_71 : decode (mz_c M_x_nextDay) 71 = .ok (.iconst 0, 1) := by decide +kernel
theorem d_x_nextDay_72 : decode (mz_c M_x_nextDay) 72 = .ok (.istore_n 1, 1) := by decide +kernel
theorem d_x_nextDay_73 : decode (mz_c M_x_nextDay) 73 = .ok (.iload_n 1, 1) := by decide +kernel
theorem d_x_nextDay_74 : decode (mz_c M_x_nextDay) 74 = .ok (.iconst 4, 1) := by decide +kernel
theorem d_x_nextDay_75 : decode (mz_c M_x_nextDay) 75 = .ok (.if_icmp .ge 19, 3) := by decide +kernel
theorem d_x_nextDay_78 : decode (mz_c M_x_nextDay) 78 = .ok (.aload_n 0, 1) := by decide +kernel
theorem d_x_nextDay_79 : decode (mz_c M_x_nextDay) 79 = .ok (.getfield 52, 3) := by decide +kernel
theorem d_x_nextDay_82 : decode (mz_c M_x_nextDay) 82 = .ok (.iload_n 1, 1) := by decide +kernel
theorem d_x_nextDay_83 : decode (mz_c M_x_nextDay) 83 = .ok (.aaload, 1) := by decide +kernel
theorem d_x_nextDay_84 : decode (mz_c M_x_nextDay) 84 = .ok (.iconst 0, 1) := by decide +kernel
theorem d_x_nextDay_85 : decode (mz_c M_x_nextDay) 85 = .ok (.putfield 157, 3) := by decide +kernel
theorem d_x_nextDay_88 : decode (mz_c M_x_nextDay) 88 = .ok (.iinc 1 1, 3) := by decide +kernel
theorem d_x_nextDay_91 : decode (mz_c M_x_nextDay) 91 = .ok (.goto (-18), 3) := by decide +kernel
theorem d_x_nextDay_94 : decode (mz_c M_x_nextDay) 94 = .ok (.return_, 1) := by decide +kernel
theorem d_x_isMember_0 : decode (mz_c M_x_isMember) 0 = .ok (.iload_n 1, 1) := by decide +kernel
theorem d_x_isMember_1 : decode (mz_c M_x_isMember) 1 = .ok (.ifCond .lt 15, 3) := by decide +kernel
theorem d_x_isMember_4 : decode (mz_c M_x_isMember) 4 = .ok (.iload_n 1, 1) := by decide +kernel
theorem d_x_isMember_5 : decode (mz_c M_x_isMember) 5 = .ok (.aload_n 0, 1) := by decide +kernel
theorem d_x_isMember_6 : decode (mz_c M_x_isMember) 6 = .ok (.getfield 9, 3) := by decide +kernel
theorem d_x_isMember_9 : decode (mz_c M_x_isMember) 9 = .ok (.if_icmp .ge 7, 3) := by decide +kernel
theorem d_x_isMember_12 : decode (mz_c M_x_isMember) 12 = .ok (.iconst 1, 1) := by decide +kernel
theorem d_x_isMember_13 : decode (mz_c M_x_isMember) 13 = .ok (.goto 4, 3) := by decide +kernel
theorem d_x_isMember_16 : decode (mz_c M_x_isMember) 16 = .ok (.iconst 0, 1) := by decide +kernel
theorem d_x_isMember_17 : decode (mz_c M_x_isMember) 17 = .ok (.ireturn, 1) := by decide +kernel
theorem d_x_isItem_0 : decode (mz_c M_x_isItem) 0 = .ok (.iload_n 1, 1) := by decide +kernel
theorem d_x_isItem_1 : decode (mz_c M_x_isItem) 1 = .ok (.iconst (-1), 1) := by decide +kernel
theorem d_x_isItem_2 : decode (mz_c M_x_isItem) 2 = .ok (.if_icmp .lt 17, 3) := by decide +kernel
theorem d_x_isItem_5 : decode (mz_c M_x_isItem) 5 = .ok (.iload_n 1, 1) := by decide +kernel
theorem d_x_isItem_6 : decode (mz_c M_x_isItem) 6 = .ok (.iconst 4, 1) := by decide +kernel
theorem d_x_isItem_7 : decode (mz_c M_x_isItem) 7 = .ok (.aload_n 0, 1) := by decide +kernel
theorem d_x_isItem_8 : decode (mz_c M_x_isItem) 8 = .ok (.getfield 9, 3) := by decide +kernel
theorem d_x_isItem_11 : decode (mz_c M_x_isItem) 11 = .ok (.imul, 1) := by decide +kernel
theorem d_x_isItem_12 : decode (mz_c M_x_isItem) 12 = .ok (.if_icmp .ge 7, 3) := by decide +kernel
theorem d_x_isItem_15 : decode (mz_c M_x_isItem) 15 = .ok (.iconst 1, 1) := by decide +kernel
theorem d_x_isItem_16 : decode (mz_c M_x_isItem) 16 = .ok (.goto 4, 3) := by decide +kernel
theorem d_x_isItem_19 : decode (mz_c M_x_isItem) 19 = .ok (.iconst 0, 1) := by decide +kernel
theorem d_x_isItem_20 : decode (mz_c M_x_isItem) 20 = .ok (.ireturn, 1) := by decide +kernel
theorem d_x_isOperator_0 : decode (mz_c M_x_isOperator) 0 = .ok (.iload_n 0, 1) := by decide +kernel
theorem d_x_isOperator_1 : decode (mz_c M_x_isOperator) 1 = .ok (.ifCond .lt 12, 3) := by decide +kernel
theorem d_x_isOperator_4 : decode (mz_c M_x_isOperator) 4 = .ok (.iload_n 0, 1) := by decide +kernel
theorem d_x_isOperator_5 : decode (mz_c M_x_isOperator) 5 = .ok (.iconst 4, 1) := by decide +kernel
theorem d_x_isOperator_6 : decode (mz_c M_x_isOperator) 6 = .ok (.if_icmp .ge 7, 3) := by decide +kernel
theorem d_x_isOperator_9 : decode (mz_c M_x_isOperator) 9 = .ok (.iconst 1, 1) := by decide +kernel
theorem d_x_isOperator_10 : decode (mz_c M_x_isOperator) 10 = .ok (.goto 4, 3) := by decide +kernel
theorem d_x_isOperator_13 : decode (mz_c M_x_isOperator) 13 = .ok (.iconst 0, 1) := by decide +kernel
theorem d_x_isOperator_14 : decode (mz_c M_x_isOperator) 14 = .ok (.ireturn, 1) := by decide +kernel
theorem d_x_isHour_0 : decode (mz_c M_x_isHour) 0 = .ok (.iload_n 0, 1) := by decide +kernel
theorem d_x_isHour_1 : decode (mz_c M_x_isHour) 1 = .ok (.ifCond .lt 12, 3) := by decide +kernel
theorem d_x_isHour_4 : decode (mz_c M_x_isHour) 4 = .ok (.iload_n 0, 1) := by decide +kernel
theorem d_x_isHour_5 : decode (mz_c M_x_isHour) 5 = .ok (.iconst 3, 1) := by decide +kernel
theorem d_x_isHour_6 : decode (mz_c M_x_isHour) 6 = .ok (.if_icmp .ge 7, 3) := by decide +kernel
theorem d_x_isHour_9 : decode (mz_c M_x_isHour) 9 = .ok (.iconst 1, 1) := by decide +kernel
theorem d_x_isHour_10 : decode (mz_c M_x_isHour) 10 = .ok (.goto 4, 3) := by decide +kernel
theorem d_x_isHour_13 : decode (mz_c M_x_isHour) 13 = .ok (.iconst 0, 1) := by decide +kernel
theorem d_x_isHour_14 : decode (mz_c M_x_isHour) 14 = .ok (.ireturn, 1) := by decide +kernel
theorem d_x_isSpan_0 : decode (mz_c M_x_isSpan) 0 = .ok (.iload_n 0, 1) := by decide +kernel
theorem d_x_isSpan_1 : decode (mz_c M_x_isSpan) 1 = .ok (.ifCond .lt 34, 3) := by decide +kernel
theorem d_x_isSpan_4 : decode (mz_c M_x_isSpan) 4 = .ok (.iload_n 0, 1) := by decide +kernel
theorem d_x_isSpan_5 : decode (mz_c M_x_isSpan) 5 = .ok (.iconst 4, 1) := by decide +kernel
theorem d_x_isSpan_6 : decode (mz_c M_x_isSpan) 6 = .ok (.idiv, 1) := by decide +kernel
theorem d_x_isSpan_7 : decode (mz_c M_x_isSpan) 7 = .ok (.invokestatic 77, 3) := by decide +kernel
theorem d_x_isSpan_10 : decode (mz_c M_x_isSpan) 10 = .ok (.ifCond .eq 25, 3) := by decide +kernel
theorem d_x_isSpan_13 : decode (mz_c M_x_isSpan) 13 = .ok (.iload_n 0, 1) := by decide +kernel
theorem d_x_isSpan_14 : decode (mz_c M_x_isSpan) 14 = .ok (.iconst 4, 1) := by decide +kernel
theorem d_x_isSpan_15 : decode (mz_c M_x_isSpan) 15 = .ok (.irem, 1) := by decide +kernel
theorem d_x_isSpan_16 : decode (mz_c M_x_isSpan) 16 = .ok (.invokestatic 77, 3) := by decide +kernel
theorem d_x_isSpan_19 : decode (mz_c M_x_isSpan) 19 = .ok (.ifCond .eq 16, 3) := by decide +kernel
theorem d_x_isSpan_22 : decode (mz_c M_x_isSpan) 22 = .ok (.iload_n 0, 1) := by decide +kernel
theorem d_x_isSpan_23 : decode (mz_c M_x_isSpan) 23 = .ok (.iconst 4, 1) := by decide +kernel
theorem d_x_isSpan_24 : decode (mz_c M_x_isSpan) 24 = .ok (.idiv, 1) := by decide +kernel
theorem d_x_isSpan_25 : decode (mz_c M_x_isSpan) 25 = .ok (.iload_n 0, 1) := by decide +kernel
theorem d_x_isSpan_26 : decode (mz_c M_x_isSpan) 26 = .ok (.iconst 4, 1) := by decide +kernel
theorem d_x_isSpan_27 : decode (mz_c M_x_isSpan) 27 = .ok (.irem, 1) := by decide +kernel
theorem d_x_isSpan_28 : decode (mz_c M_x_isSpan) 28 = .ok (.if_icmp .gt 7, 3) := by decide +kernel
theorem d_x_isSpan_31 : decode (mz_c M_x_isSpan) 31 = .ok (.iconst 1, 1) := by decide +kernel
theorem d_x_isSpan_32 : decode (mz_c M_x_isSpan) 32 = .ok (.goto 4, 3) := by decide +kernel
theorem d_x_isSpan_35 : decode (mz_c M_x_isSpan) 35 = .ok (.iconst 0, 1) := by decide +kernel
theorem d_x_isSpan_36 : decode (mz_c M_x_isSpan) 36 = .ok (.ireturn, 1) := by decide +kernel
theorem d_x_isBid_0 : decode (mz_c M_x_isBid) 0 = .ok (.iload_n 0, 1) := by decide +kernel
theorem d_x_isBid_1 : decode (mz_c M_x_isBid) 1 = .ok (.ifCond .eq 8, 3) := by decide +kernel
theorem d_x_isBid_4 : decode (mz_c M_x_isBid) 4 = .ok (.iload_n 0, 1) := by decide +kernel
theorem d_x_isBid_5 : decode (mz_c M_x_isBid) 5 = .ok (.iconst 1, 1) := by decide +kernel
theorem d_x_isBid_6 : decode (mz_c M_x_isBid) 6 = .ok (.if_icmp .ne 32, 3) := by decide +kernel
theorem d_x_isBid_9 : decode (mz_c M_x_isBid) 9 = .ok (.iload_n 1, 1) := by decide +kernel
theorem d_x_isBid_10 : decode (mz_c M_x_isBid) 10 = .ok (.iconst 1, 1) := by decide +kernel
theorem d_x_isBid_11 : decode (mz_c M_x_isBid) 11 = .ok (.if_icmp .lt 27, 3) := by decide +kernel
theorem d_x_isBid_14 : decode (mz_c M_x_isBid) 14 = .ok (.iload_n 1, 1) := by decide +kernel
theorem d_x_isBid_15 : decode (mz_c M_x_isBid) 15 = .ok (.sipush 1000, 3) := by decide +kernel
theorem d_x_isBid_18 : decode (mz_c M_x_isBid) 18 = .ok (.if_icmp .gt 20, 3) := by decide +kernel
theorem d_x_isBid_21 : decode (mz_c M_x_isBid) 21 = .ok (.iload_n 2, 1) := by decide +kernel
theorem d_x_isBid_22 : decode (mz_c M_x_isBid) 22 = .ok (.sipush (-5000), 3) := by decide +kernel
theorem d_x_isBid_25 : decode (mz_c M_x_isBid) 25 = .ok (.if_icmp .lt 13, 3) := by decide +kernel
theorem d_x_isBid_28 : decode (mz_c M_x_isBid) 28 = .ok (.iload_n 2, 1) := by decide +kernel
theorem d_x_isBid_29 : decode (mz_c M_x_isBid) 29 = .ok (.ldc 211, 2) := by decide +kernel
theorem d_x_isBid_31 : decode (mz_c M_x_isBid) 31 = .ok (.if_icmp .gt 7, 3) := by decide +kernel
theorem d_x_isBid_34 : decode (mz_c M_x_isBid) 34 = .ok (.iconst 1, 1) := by decide +kernel
theorem d_x_isBid_35 : decode (mz_c M_x_isBid) 35 = .ok (.goto 4, 3) := by decide +kernel
theorem d_x_isBid_38 : decode (mz_c M_x_isBid) 38 = .ok (.iconst 0, 1) := by decide +kernel
theorem d_x_isBid_39 : decode (mz_c M_x_isBid) 39 = .ok (.ireturn, 1) := by decide +kernel
theorem d_x_send_0 : decode (mz_c M_x_send) 0 = .ok (.aload_n 0, 1) := by decide +kernel
theorem d_x_send_1 : decode (mz_c M_x_send) 1 = .ok (.iload_n 1, 1) := by decide +kernel
theorem d_x_send_2 : decode (mz_c M_x_send) 2 = .ok (.invokevirtual 60, 3) := by decide +kernel
theorem d_x_send_5 : decode (mz_c M_x_send) 5 = .ok (.ifCond .eq 27, 3) := by decide +kernel
theorem d_x_send_8 : decode (mz_c M_x_send) 8 = .ok (.iload_n 2, 1) := by decide +kernel
theorem d_x_send_9 : decode (mz_c M_x_send) 9 = .ok (.iconst (-1), 1) := by decide +kernel
theorem d_x_send_10 : decode (mz_c M_x_send) 10 = .ok (.if_icmp .eq 10, 3) := by decide +kernel
theorem d_x_send_13 : decode (mz_c M_x_send) 13 = .ok (.iload_n 2, 1) := by decide +kernel
theorem d_x_send_14 : decode (mz_c M_x_send) 14 = .ok (.invokestatic 95, 3) := by decide +kernel
theorem d_x_send_17 : decode (mz_c M_x_send) 17 = .ok (.ifCond .eq 15, 3) := by decide +kernel
theorem d_x_send_20 : decode (mz_c M_x_send) 20 = .ok (.iload 4, 2) := by decide +kernel
theorem d_x_send_22 : decode (mz_c M_x_send) 22 = .ok (.iload 5, 2) := by decide +kernel
theorem d_x_send_24 : decode (mz_c M_x_send) 24 = .ok (.iload 6, 2) := by decide +kernel
theorem d_x_send_26 : decode (mz_c M_x_send) 26 = .ok (.invokestatic 212, 3) := by decide +kernel
theorem d_x_send_29 : decode (mz_c M_x_send) 29 = .ok (.ifCond .ne 13, 3) := by decide +kernel
theorem d_x_send_32 : decode (mz_c M_x_send) 32 = .ok (.new 65, 3) := by decide +kernel
theorem d_x_send_35 : decode (mz_c M_x_send) 35 = .ok (.dup, 1) := by decide +kernel
theorem d_x_send_36 : decode (mz_c M_x_send) 36 = .ok (.ldc 216, 2) := by decide +kernel
theorem d_x_send_38 : decode (mz_c M_x_send) 38 = .ok (.invokespecial 69, 3) := by decide +kernel
theorem d_x_send_41 : decode (mz_c M_x_send) 41 = .ok (.athrow, 1) := by decide +kernel
theorem d_x_send_42 : decode (mz_c M_x_send) 42 = .ok (.aload_n 0, 1) := by decide +kernel
theorem d_x_send_43 : decode (mz_c M_x_send) 43 = .ok (.getfield 21, 3) := by decide +kernel
theorem d_x_send_46 : decode (mz_c M_x_send) 46 = .ok (.iload_n 1, 1) := by decide +kernel
theorem d_x_send_47 : decode (mz_c M_x_send) 47 = .ok (.baload, 1) := by decide +kernel
theorem d_x_send_48 : decode (mz_c M_x_send) 48 = .ok (.ifCond .eq 13, 3) := by decide +kernel
theorem d_x_send_51 : decode (mz_c M_x_send) 51 = .ok (.new 72, 3) := by decide +kernel
theorem d_x_send_54 : decode (mz_c M_x_send) 54 = .ok (.dup, 1) := by decide +kernel
theorem d_x_send_55 : decode (mz_c M_x_send) 55 = .ok (.ldc 218, 2) := by decide +kernel
theorem d_x_send_57 : decode (mz_c M_x_send) 57 = .ok (.invokespecial 76, 3) := by decide +kernel
theorem d_x_send_60 : decode (mz_c M_x_send) 60 = .ok (.athrow, 1) := by decide +kernel
theorem d_x_send_61 : decode (mz_c M_x_send) 61 = .ok (.aload_n 0, 1) := by decide +kernel
theorem d_x_send_62 : decode (mz_c M_x_send) 62 = .ok (.getfield 17, 3) := by decide +kernel
theorem d_x_send_65 : decode (mz_c M_x_send) 65 = .ok (.iload_n 1, 1) := by decide +kernel
theorem d_x_send_66 : decode (mz_c M_x_send) 66 = .ok (.iconst 1, 1) := by decide +kernel
theorem d_x_send_67 : decode (mz_c M_x_send) 67 = .ok (.bastore, 1) := by decide +kernel
theorem d_x_send_68 : decode (mz_c M_x_send) 68 = .ok (.iconst 0, 1) := by decide +kernel
theorem d_x_send_69 : decode (mz_c M_x_send) 69 = .ok (.istore 7, 2) := by decide +kernel
theorem d_x_send_71 : decode (mz_c M_x_send) 71 = .ok (.iconst 0, 1) := by decide +kernel
theorem d_x_send_72 : decode (mz_c M_x_send) 72 = .ok (.istore 8, 2) := by decide +kernel
theorem d_x_send_74 : decode (mz_c M_x_send) 74 = .ok (.iload 8, 2) := by decide +kernel
theorem d_x_send_76 : decode (mz_c M_x_send) 76 = .ok (.iconst 4, 1) := by decide +kernel
theorem d_x_send_77 : decode (mz_c M_x_send) 77 = .ok (.if_icmp .ge 64, 3) := by decide +kernel
theorem d_x_send_80 : decode (mz_c M_x_send) 80 = .ok (.iload_n 2, 1) := by decide +kernel
theorem d_x_send_81 : decode (mz_c M_x_send) 81 = .ok (.iconst (-1), 1) := by decide +kernel
theorem d_x_send_82 : decode (mz_c M_x_send) 82 = .ok (.if_icmp .eq 9, 3) := by decide +kernel
theorem d_x_send_85 : decode (mz_c M_x_send) 85 = .ok (.iload_n 2, 1) := by decide +kernel
theorem d_x_send_86 : decode (mz_c M_x_send) 86 = .ok (.iload 8, 2) := by decide +kernel
theorem d_x_send_88 : decode (mz_c M_x_send) 88 = .ok (.if_icmp .ne 7, 3) := by decide +kernel
theorem d_x_send_91 : decode (mz_c M_x_send) 91 = .ok (.iconst 1, 1) := by decide +kernel
theorem d_x_send_92 : decode (mz_c M_x_send) 92 = .ok (.goto 4, 3) := by decide +kernel
theorem d_x_send_95 : decode (mz_c M_x_send) 95 = .ok (.iconst 0, 1) := by decide +kernel
theorem d_x_send_96 : decode (mz_c M_x_send) 96 = .ok (.istore 9, 2) := by decide +kernel
theorem d_x_send_98 : decode (mz_c M_x_send) 98 = .ok (.iload 9, 2) := by decide +kernel
theorem d_x_send_100 : decode (mz_c M_x_send) 100 = .ok (.ifCond .eq 35, 3) := by decide +kernel
theorem d_x_send_103 : decode (mz_c M_x_send) 103 = .ok (.aload_n 0, 1) := by decide +kernel
theorem d_x_send_104 : decode (mz_c M_x_send) 104 = .ok (.getfield 30, 3) := by decide +kernel
theorem d_x_send_107 : decode (mz_c M_x_send) 107 = .ok (.iconst 4, 1) := by decide +kernel
theorem d_x_send_108 : decode (mz_c M_x_send) 108 = .ok (.iload_n 1, 1) := by decide +kernel
theorem d_x_send_109 : decode (mz_c M_x_send) 109 = .ok (.imul, 1) := by decide +kernel
theorem d_x_send_110 : decode (mz_c M_x_send) 110 = .ok (.iload 8, 2) := by decide +kernel
theorem d_x_send_112 : decode (mz_c M_x_send) 112 = .ok (.iadd, 1) := by decide +kernel
theorem d_x_send_113 : decode (mz_c M_x_send) 113 = .ok (.aload_n 0, 1) := by decide +kernel
theorem d_x_send_114 : decode (mz_c M_x_send) 114 = .ok (.getfield 13, 3) := by decide +kernel
theorem d_x_send_117 : decode (mz_c M_x_send) 117 = .ok (.iload_n 1, 1) := by decide +kernel
theorem d_x_send_118 : decode (mz_c M_x_send) 118 = .ok (.iaload, 1) := by decide +kernel
theorem d_x_send_119 : decode (mz_c M_x_send) 119 = .ok (.iload_n 3, 1) := by decide +kernel
theorem d_x_send_120 : decode (mz_c M_x_send) 120 = .ok (.iload 4, 2) := by decide +kernel
theorem d_x_send_122 : decode (mz_c M_x_send) 122 = .ok (.iload 5, 2) := by decide +kernel
theorem d_x_send_124 : decode (mz_c M_x_send) 124 = .ok (.iload 6, 2) := by decide +kernel
theorem d_x_send_126 : decode (mz_c M_x_send) 126 = .ok (.invokevirtual 220, 3) := by decide +kernel
theorem d_x_send_129 : decode (mz_c M_x_send) 129 = .ok (.ifCond .eq 6, 3) := by decide +kernel
theorem d_x_send_132 : decode (mz_c M_x_send) 132 = .ok (.iinc 7 1, 3) := by decide +kernel
theorem d_x_send_135 : decode (mz_c M_x_send) 135 = .ok (.iinc 8 1, 3) := by decide +kernel
theorem d_x_send_138 : decode (mz_c M_x_send) 138 = .ok (.goto (-64), 3) := by decide +kernel
theorem d_x_send_141 : decode (mz_c M_x_send) 141 = .ok (.iload 7, 2) := by decide +kernel
theorem d_x_send_143 : decode (mz_c M_x_send) 143 = .ok (.ireturn, 1) := by decide +kernel
theorem d_x_clearedBy_0 : decode (mz_c M_x_clearedBy) 0 = .ok (.aload_n 0, 1) := by decide +kernel
theorem d_x_clearedBy_1 : decode (mz_c M_x_clearedBy) 1 = .ok (.getfield 52, 3) := by decide +kernel
theorem d_x_clearedBy_4 : decode (mz_c M_x_clearedBy) 4 = .ok (.iload_n 1, 1) := by decide +kernel
theorem d_x_clearedBy_5 : decode (mz_c M_x_clearedBy) 5 = .ok (.aaload, 1) := by decide +kernel
theorem d_x_clearedBy_6 : decode (mz_c M_x_clearedBy) 6 = .ok (.getfield 157, 3) := by decide +kernel
theorem d_x_clearedBy_9 : decode (mz_c M_x_clearedBy) 9 = .ok (.ifCond .ne 13, 3) := by decide +kernel
theorem d_x_clearedBy_12 : decode (mz_c M_x_clearedBy) 12 = .ok (.new 72, 3) := by decide +kernel
theorem d_x_clearedBy_15 : decode (mz_c M_x_clearedBy) 15 = .ok (.dup, 1) := by decide +kernel
theorem d_x_clearedBy_16 : decode (mz_c M_x_clearedBy) 16 = .ok (.ldc 224, 2) := by decide +kernel
theorem d_x_clearedBy_18 : decode (mz_c M_x_clearedBy) 18 = .ok (.invokespecial 76, 3) := by decide +kernel
theorem d_x_clearedBy_21 : decode (mz_c M_x_clearedBy) 21 = .ok (.athrow, 1) := by decide +kernel
theorem d_x_clearedBy_22 : decode (mz_c M_x_clearedBy) 22 = .ok (.aload_n 0, 1) := by decide +kernel
theorem d_x_clearedBy_23 : decode (mz_c M_x_clearedBy) 23 = .ok (.getfield 52, 3) := by decide +kernel
theorem d_x_clearedBy_26 : decode (mz_c M_x_clearedBy) 26 = .ok (.iload_n 1, 1) := by decide +kernel
theorem d_x_clearedBy_27 : decode (mz_c M_x_clearedBy) 27 = .ok (.aaload, 1) := by decide +kernel
theorem d_x_clearedBy_28 : decode (mz_c M_x_clearedBy) 28 = .ok (.areturn, 1) := by decide +kernel
theorem d_x_accountOf_0 : decode (mz_c M_x_accountOf) 0 = .ok (.aload_n 0, 1) := by decide +kernel
theorem d_x_accountOf_1 : decode (mz_c M_x_accountOf) 1 = .ok (.getfield 39, 3) := by decide +kernel
theorem d_x_accountOf_4 : decode (mz_c M_x_accountOf) 4 = .ok (.iload_n 2, 1) := by decide +kernel
theorem d_x_accountOf_5 : decode (mz_c M_x_accountOf) 5 = .ok (.iload_n 3, 1) := by decide +kernel
theorem d_x_accountOf_6 : decode (mz_c M_x_accountOf) 6 = .ok (.invokevirtual 145, 3) := by decide +kernel
theorem d_x_accountOf_9 : decode (mz_c M_x_accountOf) 9 = .ok (.istore 4, 2) := by decide +kernel
theorem d_x_accountOf_11 : decode (mz_c M_x_accountOf) 11 = .ok (.lconst 0, 1) := by decide +kernel
theorem d_x_accountOf_12 : decode (mz_c M_x_accountOf) 12 = .ok (.lstore 5, 2) := by decide +kernel
theorem d_x_accountOf_14 : decode (mz_c M_x_accountOf) 14 = .ok (.iconst 0, 1) := by decide +kernel
theorem d_x_accountOf_15 : decode (mz_c M_x_accountOf) 15 = .ok (.istore 7, 2) := by decide +kernel
theorem d_x_accountOf_17 : decode (mz_c M_x_accountOf) 17 = .ok (.iload 7, 2) := by decide +kernel
theorem d_x_accountOf_19 : decode (mz_c M_x_accountOf) 19 = .ok (.iconst 3, 1) := by decide +kernel
theorem d_x_accountOf_20 : decode (mz_c M_x_accountOf) 20 = .ok (.if_icmp .ge 94, 3) := by decide +kernel
theorem d_x_accountOf_23 : decode (mz_c M_x_accountOf) 23 = .ok (.aload_n 0, 1) := by decide +kernel
theorem d_x_accountOf_24 : decode (mz_c M_x_accountOf) 24 = .ok (.aload_n 1, 1) := by decide +kernel
theorem d_x_accountOf_25 : decode (mz_c M_x_accountOf) 25 = .ok (.iload 4, 2) := by decide +kernel
theorem d_x_accountOf_27 : decode (mz_c M_x_accountOf) 27 = .ok (.iload_n 3, 1) := by decide +kernel
theorem d_x_accountOf_28 : decode (mz_c M_x_accountOf) 28 = .ok (.iload 7, 2) := by decide +kernel
theorem d_x_accountOf_30 : decode (mz_c M_x_accountOf) 30 = .ok (.invokevirtual 226, 3) := by decide +kernel
theorem d_x_accountOf_33 : decode (mz_c M_x_accountOf) 33 = .ok (.lstore 8, 2) := by decide +kernel
theorem d_x_accountOf_35 : decode (mz_c M_x_accountOf) 35 = .ok (.aload_n 0, 1) := by decide +kernel
theorem d_x_accountOf_36 : decode (mz_c M_x_accountOf) 36 = .ok (.getfield 24, 3) := by decide +kernel
theorem d_x_accountOf_39 : decode (mz_c M_x_accountOf) 39 = .ok (.iconst 3, 1) := by decide +kernel
theorem d_x_accountOf_40 : decode (mz_c M_x_accountOf) 40 = .ok (.iload_n 3, 1) := by decide +kernel
theorem d_x_accountOf_41 : decode (mz_c M_x_accountOf) 41 = .ok (.imul, 1) := by decide +kernel
theorem d_x_accountOf_42 : decode (mz_c M_x_accountOf) 42 = .ok (.iload 7, 2) := by decide +kernel
theorem d_x_accountOf_44 : decode (mz_c M_x_accountOf) 44 = .ok (.iadd, 1) := by decide +kernel
theorem d_x_accountOf_45 : decode (mz_c M_x_accountOf) 45 = .ok (.iaload, 1) := by decide +kernel
theorem d_x_accountOf_46 : decode (mz_c M_x_accountOf) 46 = .ok (.i2l, 1) := by decide +kernel
theorem d_x_accountOf_47 : decode (mz_c M_x_accountOf) 47 = .ok (.lload 8, 2) := by decide +kernel
theorem d_x_accountOf_49 : decode (mz_c M_x_accountOf) 49 = .ok (.lsub, 1) := by decide +kernel
theorem d_x_accountOf_50 : decode (mz_c M_x_accountOf) 50 = .ok (.lstore 10, 2) := by decide +kernel
theorem d_x_accountOf_52 : decode (mz_c M_x_accountOf) 52 = .ok (.lload 10, 2) := by decide +kernel
theorem d_x_accountOf_54 : decode (mz_c M_x_accountOf) 54 = .ok (.lconst 0, 1) := by decide +kernel
theorem d_x_accountOf_55 : decode (mz_c M_x_accountOf) 55 = .ok (.lcmp, 1) := by decide +kernel
theorem d_x_accountOf_56 : decode (mz_c M_x_accountOf) 56 = .ok (.ifCond .le 17, 3) := by decide +kernel
theorem d_x_accountOf_59 : decode (mz_c M_x_accountOf) 59 = .ok (.aload_n 1, 1) := by decide +kernel
theorem d_x_accountOf_60 : decode (mz_c M_x_accountOf) 60 = .ok (.getfield 178, 3) := by decide +kernel
theorem d_x_accountOf_63 : decode (mz_c M_x_accountOf) 63 = .ok (.iload 7, 2) := by decide +kernel
theorem d_x_accountOf_65 : decode (mz_c M_x_accountOf) 65 = .ok (.iaload, 1) := by decide +kernel
theorem d_x_accountOf_66 : decode (mz_c M_x_accountOf) 66 = .ok (.bipush 50, 2) := by decide +kernel
theorem d_x_accountOf_68 : decode (mz_c M_x_accountOf) 68 = .ok (.isub, 1) := by decide +kernel
theorem d_x_accountOf_69 : decode (mz_c M_x_accountOf) 69 = .ok (.i2l, 1) := by decide +kernel
theorem d_x_accountOf_70 : decode (mz_c M_x_accountOf) 70 = .ok (.goto 14, 3) := by decide +kernel
theorem d_x_accountOf_73 : decode (mz_c M_x_accountOf) 73 = .ok (.aload_n 1, 1) := by decide +kernel
theorem d_x_accountOf_74 : decode (mz_c M_x_accountOf) 74 = .ok (.getfield 178, 3) := by decide +kernel
theorem d_x_accountOf_77 : decode (mz_c M_x_accountOf) 77 = .ok (.iload 7, 2) := by decide +kernel
theorem d_x_accountOf_79 : decode (mz_c M_x_accountOf) 79 = .ok (.iaload, 1) := by decide +kernel
theorem d_x_accountOf_80 : decode (mz_c M_x_accountOf) 80 = .ok (.bipush 50, 2) := by decide +kernel
theorem d_x_accountOf_82 : decode (mz_c M_x_accountOf) 82 = .ok (.iadd, 1) := by decide +kernel
theorem d_x_accountOf_83 : decode (mz_c M_x_accountOf) 83 = .ok (.i2l, 1) := by decide +kernel
theorem d_x_accountOf_84 : decode (mz_c M_x_accountOf) 84 = .ok (.lstore 12, 2) := by decide +kernel
theorem d_x_accountOf_86 : decode (mz_c M_x_accountOf) 86 = .ok (.lload 5, 2) := by decide +kernel
theorem d_x_accountOf_88 : decode (mz_c M_x_accountOf) 88 = .ok (.aload_n 1, 1) := by decide +kernel
theorem d_x_accountOf_89 : decode (mz_c M_x_accountOf) 89 = .ok (.getfield 178, 3) := by decide +kernel
theorem d_x_accountOf_92 : decode (mz_c M_x_accountOf) 92 = .ok (.iload 7, 2) := by decide +kernel
theorem d_x_accountOf_94 : decode (mz_c M_x_accountOf) 94 = .ok (.iaload, 1) := by decide +kernel
theorem d_x_accountOf_95 : decode (mz_c M_x_accountOf) 95 = .ok (.i2l, 1) := by decide +kernel
theorem d_x_accountOf_96 : decode (mz_c M_x_accountOf) 96 = .ok (.lload 8, 2) := by decide +kernel
theorem d_x_accountOf_98 : decode (mz_c M_x_accountOf) 98 = .ok (.lmul, 1) := by decide +kernel
theorem d_x_accountOf_99 : decode (mz_c M_x_accountOf) 99 = .ok (.lload 12, 2) := by decide +kernel
theorem d_x_accountOf_101 : decode (mz_c M_x_accountOf) 101 = .ok (.lload 10, 2) := by decide +kernel
theorem d_x_accountOf_103 : decode (mz_c M_x_accountOf) 103 = .ok (.lmul, 1) := by decide +kernel
theorem d_x_accountOf_104 : decode (mz_c M_x_accountOf) 104 = .ok (.ladd, 1) := by decide +kernel
theorem d_x_accountOf_105 : decode (mz_c M_x_accountOf) 105 = .ok (.ladd, 1) := by decide +kernel
theorem d_x_accountOf_106 : decode (mz_c M_x_accountOf) 106 = .ok (.lstore 5, 2) := by decide +kernel
theorem d_x_accountOf_108 : decode (mz_c M_x_accountOf) 108 = .ok (.iinc 7 1, 3) := by decide +kernel
theorem d_x_accountOf_111 : decode (mz_c M_x_accountOf) 111 = .ok (.goto (-94), 3) := by decide +kernel
theorem d_x_accountOf_114 : decode (mz_c M_x_accountOf) 114 = .ok (.lload 5, 2) := by decide +kernel
theorem d_x_accountOf_116 : decode (mz_c M_x_accountOf) 116 = .ok (.lreturn, 1) := by decide +kernel
theorem d_x_soldLessBought_0 : decode (mz_c M_x_soldLessBought) 0 = .ok (.lconst 0, 1) := by decide +kernel
theorem d_x_soldLessBought_1 : decode (mz_c M_x_soldLessBought) 1 = .ok (.lstore 5, 2) := by decide +kernel
theorem d_x_soldLessBought_3 : decode (mz_c M_x_soldLessBought) 3 = .ok (.iconst 0, 1) := by decide +kernel
theorem d_x_soldLessBought_4 : decode (mz_c M_x_soldLessBought) 4 = .ok (.istore 7, 2) := by decide +kernel
theorem d_x_soldLessBought_6 : decode (mz_c M_x_soldLessBought) 6 = .ok (.iload 7, 2) := by decide +kernel
theorem d_x_soldLessBought_8 : decode (mz_c M_x_soldLessBought) 8 = .ok (.aload_n 0, 1) := by decide +kernel
theorem d_x_soldLessBought_9 : decode (mz_c M_x_soldLessBought) 9 = .ok (.getfield 30, 3) := by decide +kernel
theorem d_x_soldLessBought_12 : decode (mz_c M_x_soldLessBought) 12 = .ok (.getfield 149, 3) := by decide +kernel
theorem d_x_soldLessBought_15 : decode (mz_c M_x_soldLessBought) 15 = .ok (.iload_n 2, 1) := by decide +kernel
theorem d_x_soldLessBought_16 : decode (mz_c M_x_soldLessBought) 16 = .ok (.iaload, 1) := by decide +kernel
theorem d_x_soldLessBought_17 : decode (mz_c M_x_soldLessBought) 17 = .ok (.if_icmp .ge 75, 3) := by decide +kernel
theorem d_x_soldLessBought_20 : decode (mz_c M_x_soldLessBought) 20 = .ok (.bipush 10, 2) := by decide +kernel
theorem d_x_soldLessBought_22 : decode (mz_c M_x_soldLessBought) 22 = .ok (.iload_n 2, 1) := by decide +kernel
theorem d_x_soldLessBought_23 : decode (mz_c M_x_soldLessBought) 23 = .ok (.imul, 1) := by decide +kernel
theorem d_x_soldLessBought_24 : decode (mz_c M_x_soldLessBought) 24 = .ok (.iload 7, 2) := by decide +kernel
theorem d_x_soldLessBought_26 : decode (mz_c M_x_soldLessBought) 26 = .ok (.iadd, 1) := by decide +kernel
theorem d_x_soldLessBought_27 : decode (mz_c M_x_soldLessBought) 27 = .ok (.istore 8, 2) := by decide +kernel
theorem d_x_soldLessBought_29 : decode (mz_c M_x_soldLessBought) 29 = .ok (.aload_n 0, 1) := by decide +kernel
theorem d_x_soldLessBought_30 : decode (mz_c M_x_soldLessBought) 30 = .ok (.getfield 30, 3) := by decide +kernel
theorem d_x_soldLessBought_33 : decode (mz_c M_x_soldLessBought) 33 = .ok (.iload 8, 2) := by decide +kernel
theorem d_x_soldLessBought_35 : decode (mz_c M_x_soldLessBought) 35 = .ok (.iload 4, 2) := by decide +kernel
theorem d_x_soldLessBought_37 : decode (mz_c M_x_soldLessBought) 37 = .ok (.invokevirtual 230, 3) := by decide +kernel
theorem d_x_soldLessBought_40 : decode (mz_c M_x_soldLessBought) 40 = .ok (.ifCond .eq 46, 3) := by decide +kernel
theorem d_x_soldLessBought_43 : decode (mz_c M_x_soldLessBought) 43 = .ok (.aload_n 1, 1) := by decide +kernel
theorem d_x_soldLessBought_44 : decode (mz_c M_x_soldLessBought) 44 = .ok (.getfield 188, 3) := by decide +kernel
theorem d_x_soldLessBought_47 : decode (mz_c M_x_soldLessBought) 47 = .ok (.bipush 10, 2) := by decide +kernel
theorem d_x_soldLessBought_49 : decode (mz_c M_x_soldLessBought) 49 = .ok (.iload_n 3, 1) := by decide +kernel
theorem d_x_soldLessBought_50 : decode (mz_c M_x_soldLessBought) 50 = .ok (.imul, 1) := by decide +kernel
theorem d_x_soldLessBought_51 : decode (mz_c M_x_soldLessBought) 51 = .ok (.iload 7, 2) := by decide +kernel
theorem d_x_soldLessBought_53 : decode (mz_c M_x_soldLessBought) 53 = .ok (.iadd, 1) := by decide +kernel
theorem d_x_soldLessBought_54 : decode (mz_c M_x_soldLessBought) 54 = .ok (.iaload, 1) := by decide +kernel
theorem d_x_soldLessBought_55 : decode (mz_c M_x_soldLessBought) 55 = .ok (.istore 9, 2) := by decide +kernel
theorem d_x_soldLessBought_57 : decode (mz_c M_x_soldLessBought) 57 = .ok (.lload 5, 2) := by decide +kernel
theorem d_x_soldLessBought_59 : decode (mz_c M_x_soldLessBought) 59 = .ok (.aload_n 0, 1) := by decide +kernel
theorem d_x_soldLessBought_60 : decode (mz_c M_x_soldLessBought) 60 = .ok (.getfield 30, 3) := by decide +kernel
theorem d_x_soldLessBought_63 : decode (mz_c M_x_soldLessBought) 63 = .ok (.getfield 233, 3) := by decide +kernel
theorem d_x_soldLessBought_66 : decode (mz_c M_x_soldLessBought) 66 = .ok (.iload 8, 2) := by decide +kernel
theorem d_x_soldLessBought_68 : decode (mz_c M_x_soldLessBought) 68 = .ok (.iaload, 1) := by decide +kernel
theorem d_x_soldLessBought_69 : decode (mz_c M_x_soldLessBought) 69 = .ok (.iconst 1, 1) := by decide +kernel
theorem d_x_soldLessBought_70 : decode (mz_c M_x_soldLessBought) 70 = .ok (.if_icmp .ne 9, 3) := by decide +kernel
theorem d_x_soldLessBought_73 : decode (mz_c M_x_soldLessBought) 73 = .ok (.iload 9, 2) := by decide +kernel
theorem d_x_soldLessBought_75 : decode (mz_c M_x_soldLessBought) 75 = .ok (.i2l, 1) := by decide +kernel
theorem d_x_soldLessBought_76 : decode (mz_c M_x_soldLessBought) 76 = .ok (.goto 7, 3) := by decide +kernel
theorem d_x_soldLessBought_79 : decode (mz_c M_x_soldLessBought) 79 = .ok (.iload 9, 2) := by decide +kernel
theorem d_x_soldLessBought_81 : decode (mz_c M_x_soldLessBought) 81 = .ok (.ineg, 1) := by decide +kernel
theorem d_x_soldLessBought_82 : decode (mz_c M_x_soldLessBought) 82 = .ok (.i2l, 1) := by decide +kernel
theorem d_x_soldLessBought_83 : decode (mz_c M_x_soldLessBought) 83 = .ok (.ladd, 1) := by decide +kernel
theorem d_x_soldLessBought_84 : decode (mz_c M_x_soldLessBought) 84 = .ok (.lstore 5, 2) := by decide +kernel
theorem d_x_soldLessBought_86 : decode (mz_c M_x_soldLessBought) 86 = .ok (.iinc 7 1, 3) := by decide +kernel
theorem d_x_soldLessBought_89 : decode (mz_c M_x_soldLessBought) 89 = .ok (.goto (-83), 3) := by decide +kernel
theorem d_x_soldLessBought_92 : decode (mz_c M_x_soldLessBought) 92 = .ok (.lload 5, 2) := by decide +kernel
theorem d_x_soldLessBought_94 : decode (mz_c M_x_soldLessBought) 94 = .ok (.lreturn, 1) := by decide +kernel
theorem d_ag_init_0 : decode (mz_c M_ag_init) 0 = .ok (.aload_n 0, 1) := by decide +kernel
theorem d_ag_init_1 : decode (mz_c M_ag_init) 1 = .ok (.invokespecial 3, 3) := by decide +kernel
theorem d_ag_init_4 : decode (mz_c M_ag_init) 4 = .ok (.aload_n 0, 1) := by decide +kernel
theorem d_ag_init_5 : decode (mz_c M_ag_init) 5 = .ok (.aload_n 1, 1) := by decide +kernel
theorem d_ag_init_6 : decode (mz_c M_ag_init) 6 = .ok (.putfield 9, 3) := by decide +kernel
theorem d_ag_init_9 : decode (mz_c M_ag_init) 9 = .ok (.aload_n 0, 1) := by decide +kernel
theorem d_ag_init_10 : decode (mz_c M_ag_init) 10 = .ok (.bipush 24, 2) := by decide +kernel
theorem d_ag_init_12 : decode (mz_c M_ag_init) 12 = .ok (.newarray .int, 2) := by decide +kernel
theorem d_ag_init_14 : decode (mz_c M_ag_init) 14 = .ok (.putfield 15, 3) := by decide +kernel
theorem d_ag_init_17 : decode (mz_c M_ag_init) 17 = .ok (.aload_n 0, 1) := by decide +kernel
theorem d_ag_init_18 : decode (mz_c M_ag_init) 18 = .ok (.bipush 96, 2) := by decide +kernel
theorem d_ag_init_20 : decode (mz_c M_ag_init) 20 = .ok (.newarray .int, 2) := by decide +kernel
theorem d_ag_init_22 : decode (mz_c M_ag_init) 22 = .ok (.putfield 19, 3) := by decide +kernel
theorem d_ag_init_25 : decode (mz_c M_ag_init) 25 = .ok (.aload_n 0, 1) := by decide +kernel
theorem d_ag_init_26 : decode (mz_c M_ag_init) 26 = .ok (.iconst 4, 1) := by decide +kernel
theorem d_ag_init_27 : decode (mz_c M_ag_init) 27 = .ok (.newarray .int, 2) := by decide +kernel
theorem d_ag_init_29 : decode (mz_c M_ag_init) 29 = .ok (.putfield 22, 3) := by decide +kernel
theorem d_ag_init_32 : decode (mz_c M_ag_init) 32 = .ok (.aload_n 0, 1) := by decide +kernel
theorem d_ag_init_33 : decode (mz_c M_ag_init) 33 = .ok (.bipush 24, 2) := by decide +kernel
theorem d_ag_init_35 : decode (mz_c M_ag_init) 35 = .ok (.newarray .int, 2) := by decide +kernel
theorem d_ag_init_37 : decode (mz_c M_ag_init) 37 = .ok (.putfield 25, 3) := by decide +kernel
theorem d_ag_init_40 : decode (mz_c M_ag_init) 40 = .ok (.aload_n 0, 1) := by decide +kernel
theorem d_ag_init_41 : decode (mz_c M_ag_init) 41 = .ok (.invokevirtual 28, 3) := by decide +kernel
theorem d_ag_init_44 : decode (mz_c M_ag_init) 44 = .ok (.return_, 1) := by decide +kernel
theorem d_ag_forget_0 : decode (mz_c M_ag_forget) 0 = .ok (.aload_n 0, 1) := by decide +kernel
theorem d_ag_forget_1 : decode (mz_c M_ag_forget) 1 = .ok (.iconst (-1), 1) := by decide +kernel
theorem d_ag_forget_2 : decode (mz_c M_ag_forget) 2 = .ok (.putfield 31, 3) := by decide +kernel
theorem d_ag_forget_5 : decode (mz_c M_ag_forget) 5 = .ok (.aload_n 0, 1) := by decide +kernel
theorem d_ag_forget_6 : decode (mz_c M_ag_forget) 6 = .ok (.iconst 0, 1) := by decide +kernel
theorem d_ag_forget_7 : decode (mz_c M_ag_forget) 7 = .ok (.putfield 35, 3) := by decide +kernel
theorem d_ag_forget_10 : decode (mz_c M_ag_forget) 10 = .ok (.iconst 0, 1) := by decide +kernel
theorem d_ag_forget_11 : decode (mz_c M_ag_forget) 11 = .ok (.istore_n 1, 1) := by decide +kernel
theorem d_ag_forget_12 : decode (mz_c M_ag_forget) 12 = .ok (.iload_n 1, 1) := by decide +kernel
theorem d_ag_forget_13 : decode (mz_c M_ag_forget) 13 = .ok (.aload_n 0, 1) := by decide +kernel
theorem d_ag_forget_14 : decode (mz_c M_ag_forget) 14 = .ok (.getfield 15, 3) := by decide +kernel
theorem d_ag_forget_17 : decode (mz_c M_ag_forget) 17 = .ok (.arraylength, 1) := by decide +kernel
theorem d_ag_forget_18 : decode (mz_c M_ag_forget) 18 = .ok (.if_icmp .ge 16, 3) := by decide +kernel
theorem d_ag_forget_21 : decode (mz_c M_ag_forget) 21 = .ok (.aload_n 0, 1) := by decide +kernel
theorem d_ag_forget_22 : decode (mz_c M_ag_forget) 22 = .ok (.getfield 15, 3) := by decide +kernel
theorem d_ag_forget_25 : decode (mz_c M_ag_forget) 25 = .ok (.iload_n 1, 1) := by decide +kernel
theorem d_ag_forget_26 : decode (mz_c M_ag_forget) 26 = .ok (.iconst (-1), 1) := by decide +kernel
theorem d_ag_forget_27 : decode (mz_c M_ag_forget) 27 = .ok (.iastore, 1) := by decide +kernel
theorem d_ag_forget_28 : decode (mz_c M_ag_forget) 28 = .ok (.iinc 1 1, 3) := by decide +kernel
theorem d_ag_forget_31 : decode (mz_c M_ag_forget) 31 = .ok (.goto (-19), 3) := by decide +kernel
theorem d_ag_forget_34 : decode (mz_c M_ag_forget) 34 = .ok (.iconst 0, 1) := by decide +kernel
theorem d_ag_forget_35 : decode (mz_c M_ag_forget) 35 = .ok (.istore_n 1, 1) := by decide +kernel
theorem d_ag_forget_36 : decode (mz_c M_ag_forget) 36 = .ok (.iload_n 1, 1) := by decide +kernel
theorem d_ag_forget_37 : decode (mz_c M_ag_forget) 37 = .ok (.aload_n 0, 1) := by decide +kernel
theorem d_ag_forget_38 : decode (mz_c M_ag_forget) 38 = .ok (.getfield 19, 3) := by decide +kernel
theorem d_ag_forget_41 : decode (mz_c M_ag_forget) 41 = .ok (.arraylength, 1) := by decide +kernel
theorem d_ag_forget_42 : decode (mz_c M_ag_forget) 42 = .ok (.if_icmp .ge 16, 3) := by decide +kernel
theorem d_ag_forget_45 : decode (mz_c M_ag_forget) 45 = .ok (.aload_n 0, 1) := by decide +kernel
theorem d_ag_forget_46 : decode (mz_c M_ag_forget) 46 = .ok (.getfield 19, 3) := by decide +kernel
theorem d_ag_forget_49 : decode (mz_c M_ag_forget) 49 = .ok (.iload_n 1, 1) := by decide +kernel
theorem d_ag_forget_50 : decode (mz_c M_ag_forget) 50 = .ok (.iconst (-1), 1) := by decide +kernel
theorem d_ag_forget_51 : decode (mz_c M_ag_forget) 51 = .ok (.iastore, 1) := by decide +kernel
theorem d_ag_forget_52 : decode (mz_c M_ag_forget) 52 = .ok (.iinc 1 1, 3) := by decide +kernel
theorem d_ag_forget_55 : decode (mz_c M_ag_forget) 55 = .ok (.goto (-19), 3) := by decide +kernel
theorem d_ag_forget_58 : decode (mz_c M_ag_forget) 58 = .ok (.iconst 0, 1) := by decide +kernel
theorem d_ag_forget_59 : decode (mz_c M_ag_forget) 59 = .ok (.istore_n 1, 1) := by decide +kernel
theorem d_ag_forget_60 : decode (mz_c M_ag_forget) 60 = .ok (.iload_n 1, 1) := by decide +kernel
theorem d_ag_forget_61 : decode (mz_c M_ag_forget) 61 = .ok (.aload_n 0, 1) := by decide +kernel
theorem d_ag_forget_62 : decode (mz_c M_ag_forget) 62 = .ok (.getfield 25, 3) := by decide +kernel
theorem d_ag_forget_65 : decode (mz_c M_ag_forget) 65 = .ok (.arraylength, 1) := by decide +kernel
theorem d_ag_forget_66 : decode (mz_c M_ag_forget) 66 = .ok (.if_icmp .ge 17, 3) := by decide +kernel
theorem d_ag_forget_69 : decode (mz_c M_ag_forget) 69 = .ok (.aload_n 0, 1) := by decide +kernel
theorem d_ag_forget_70 : decode (mz_c M_ag_forget) 70 = .ok (.getfield 25, 3) := by decide +kernel
theorem d_ag_forget_73 : decode (mz_c M_ag_forget) 73 = .ok (.iload_n 1, 1) := by decide +kernel
theorem d_ag_forget_74 : decode (mz_c M_ag_forget) 74 = .ok (.bipush 24, 2) := by decide +kernel
theorem d_ag_forget_76 : decode (mz_c M_ag_forget) 76 = .ok (.iastore, 1) := by decide +kernel
theorem d_ag_forget_77 : decode (mz_c M_ag_forget) 77 = .ok (.iinc 1 1, 3) := by decide +kernel
theorem d_ag_forget_80 : decode (mz_c M_ag_forget) 80 = .ok (.goto (-20), 3) := by decide +kernel
theorem d_ag_forget_83 : decode (mz_c M_ag_forget) 83 = .ok (.return_, 1) := by decide +kernel
theorem d_ag_hasLiar_0 : decode (mz_c M_ag_hasLiar) 0 = .ok (.aload_n 0, 1) := by decide +kernel
theorem d_ag_hasLiar_1 : decode (mz_c M_ag_hasLiar) 1 = .ok (.getfield 31, 3) := by decide +kernel
theorem d_ag_hasLiar_4 : decode (mz_c M_ag_hasLiar) 4 = .ok (.iconst (-1), 1) := by decide +kernel
theorem d_ag_hasLiar_5 : decode (mz_c M_ag_hasLiar) 5 = .ok (.if_icmp .eq 7, 3) := by decide +kernel
theorem d_ag_hasLiar_8 : decode (mz_c M_ag_hasLiar) 8 = .ok (.iconst 1, 1) := by decide +kernel
theorem d_ag_hasLiar_9 : decode (mz_c M_ag_hasLiar) 9 = .ok (.goto 4, 3) := by decide +kernel
theorem d_ag_hasLiar_12 : decode (mz_c M_ag_hasLiar) 12 = .ok (.iconst 0, 1) := by decide +kernel
theorem d_ag_hasLiar_13 : decode (mz_c M_ag_hasLiar) 13 = .ok (.ireturn, 1) := by decide +kernel
theorem d_ag_isOver_0 : decode (mz_c M_ag_isOver) 0 = .ok (.aload_n 0, 1) := by decide +kernel
theorem d_ag_isOver_1 : decode (mz_c M_ag_isOver) 1 = .ok (.getfield 35, 3) := by decide +kernel
theorem d_ag_isOver_4 : decode (mz_c M_ag_isOver) 4 = .ok (.iconst 3, 1) := by decide +kernel
theorem d_ag_isOver_5 : decode (mz_c M_ag_isOver) 5 = .ok (.if_icmp .lt 7, 3) := by decide +kernel
theorem d_ag_isOver_8 : decode (mz_c M_ag_isOver) 8 = .ok (.iconst 1, 1) := by decide +kernel
theorem d_ag_isOver_9 : decode (mz_c M_ag_isOver) 9 = .ok (.goto 4, 3) := by decide +kernel
theorem d_ag_isOver_12 : decode (mz_c M_ag_isOver) 12 = .ok (.iconst 0, 1) := by decide +kernel
theorem d_ag_isOver_13 : decode (mz_c M_ag_isOver) 13 = .ok (.ireturn, 1) := by decide +kernel
theorem d_ag_isTellingNext_0 : decode (mz_c M_ag_isTellingNext) 0 = .ok (.aload_n 0, 1) := by decide +kernel
theorem d_ag_isTellingNext_1 : decode (mz_c M_ag_isTellingNext) 1 = .ok (.getfield 35, 3) := by decide +kernel
theorem d_ag_isTellingNext_4 : decode (mz_c M_ag_isTellingNext) 4 = .ok (.iconst 1, 1) := by decide +kernel
theorem d_ag_isTellingNext_5 : decode (mz_c M_ag_isTellingNext) 5 = .ok (.if_icmp .eq 11, 3) := by decide +kernel
theorem d_ag_isTellingNext_8 : decode (mz_c M_ag_isTellingNext) 8 = .ok (.aload_n 0, 1) := by decide +kernel
theorem d_ag_isTellingNext_9 : decode (mz_c M_ag_isTellingNext) 9 = .ok (.getfield 35, 3) := by decide +kernel
theorem d_ag_isTellingNext_12 : decode (mz_c M_ag_isTellingNext) 12 = .ok (.iconst 2, 1) := by decide +kernel
theorem d_ag_isTellingNext_13 : decode (mz_c M_ag_isTellingNext) 13 = .ok (.if_icmp .ne 7, 3) := by decide +kernel
theorem d_ag_isTellingNext_16 : decode (mz_c M_ag_isTellingNext) 16 = .ok (.iconst 1, 1) := by decide +kernel
theorem d_ag_isTellingNext_17 : decode (mz_c M_ag_isTellingNext) 17 = .ok (.goto 4, 3) := by decide +kernel
theorem d_ag_isTellingNext_20 : decode (mz_c M_ag_isTellingNext) 20 = .ok (.iconst 0, 1) := by decide +kernel
theorem d_ag_isTellingNext_21 : decode (mz_c M_ag_isTellingNext) 21 = .ok (.ireturn, 1) := by decide +kernel
theorem d_ag_mayLie_0 : decode (mz_c M_ag_mayLie) 0 = .ok (.iload_n 1, 1) := by decide +kernel
theorem d_ag_mayLie_1 : decode (mz_c M_ag_mayLie) 1 = .ok (.aload_n 0, 1) := by decide +kernel
theorem d_ag_mayLie_2 : decode (mz_c M_ag_mayLie) 2 = .ok (.getfield 31, 3) := by decide +kernel
theorem d_ag_mayLie_5 : decode (mz_c M_ag_mayLie) 5 = .ok (.if_icmp .ne 5, 3) := by decide +kernel
theorem d_ag_mayLie_8 : decode (mz_c M_ag_mayLie) 8 = .ok (.iconst 0, 1) := by decide +kernel
theorem d_ag_mayLie_9 : decode (mz_c M_ag_mayLie) 9 = .ok (.ireturn, 1) := by decide +kernel
theorem d_ag_mayLie_10 : decode (mz_c M_ag_mayLie) 10 = .ok (.aload_n 0, 1) := by decide +kernel
theorem d_ag_mayLie_11 : decode (mz_c M_ag_mayLie) 11 = .ok (.getfield 35, 3) := by decide +kernel
theorem d_ag_mayLie_14 : decode (mz_c M_ag_mayLie) 14 = .ok (.iconst 1, 1) := by decide +kernel
theorem d_ag_mayLie_15 : decode (mz_c M_ag_mayLie) 15 = .ok (.if_icmp .ne 19, 3) := by decide +kernel
theorem d_ag_mayLie_18 : decode (mz_c M_ag_mayLie) 18 = .ok (.iload_n 2, 1) := by decide +kernel
theorem d_ag_mayLie_19 : decode (mz_c M_ag_mayLie) 19 = .ok (.aload_n 0, 1) := by decide +kernel
theorem d_ag_mayLie_20 : decode (mz_c M_ag_mayLie) 20 = .ok (.getfield 31, 3) := by decide +kernel
theorem d_ag_mayLie_23 : decode (mz_c M_ag_mayLie) 23 = .ok (.if_icmp .ne 7, 3) := by decide +kernel
theorem d_ag_mayLie_26 : decode (mz_c M_ag_mayLie) 26 = .ok (.iconst 1, 1) := by decide +kernel
theorem d_ag_mayLie_27 : decode (mz_c M_ag_mayLie) 27 = .ok (.goto 25, 3) := by decide +kernel
theorem d_ag_mayLie_30 : decode (mz_c M_ag_mayLie) 30 = .ok (.iconst 0, 1) := by decide +kernel
theorem d_ag_mayLie_31 : decode (mz_c M_ag_mayLie) 31 = .ok (.goto 21, 3) := by decide +kernel
theorem d_ag_mayLie_34 : decode (mz_c M_ag_mayLie) 34 = .ok (.iload_n 2, 1) := by decide +kernel
theorem d_ag_mayLie_35 : decode (mz_c M_ag_mayLie) 35 = .ok (.aload_n 0, 1) := by decide +kernel
theorem d_ag_mayLie_36 : decode (mz_c M_ag_mayLie) 36 = .ok (.getfield 31, 3) := by decide +kernel
theorem d_ag_mayLie_39 : decode (mz_c M_ag_mayLie) 39 = .ok (.if_icmp .eq 12, 3) := by decide +kernel
theorem d_ag_mayLie_42 : decode (mz_c M_ag_mayLie) 42 = .ok (.iload_n 2, 1) := by decide +kernel
theorem d_ag_mayLie_43 : decode (mz_c M_ag_mayLie) 43 = .ok (.iload_n 1, 1) := by decide +kernel
theorem d_ag_mayLie_44 : decode (mz_c M_ag_mayLie) 44 = .ok (.if_icmp .eq 7, 3) := by decide +kernel
theorem d_ag_mayLie_47 : decode (mz_c M_ag_mayLie) 47 = .ok (.iconst 1, 1) := by decide +kernel
theorem d_ag_mayLie_48 : decode (mz_c M_ag_mayLie) 48 = .ok (.goto 4, 3) := by decide +kernel
theorem d_ag_mayLie_51 : decode (mz_c M_ag_mayLie) 51 = .ok (.iconst 0, 1) := by decide +kernel
theorem d_ag_mayLie_52 : decode (mz_c M_ag_mayLie) 52 = .ok (.ireturn, 1) := by decide +kernel
theorem d_ag_setLie_0 : decode (mz_c M_ag_setLie) 0 = .ok (.aload_n 0, 1) := by decide +kernel
theorem d_ag_setLie_1 : decode (mz_c M_ag_setLie) 1 = .ok (.getfield 35, 3) := by decide +kernel
theorem d_ag_setLie_4 : decode (mz_c M_ag_setLie) 4 = .ok (.iconst 1, 1) := by decide +kernel
theorem d_ag_setLie_5 : decode (mz_c M_ag_setLie) 5 = .ok (.if_icmp .ne 18, 3) := by decide +kernel
theorem d_ag_setLie_8 : decode (mz_c M_ag_setLie) 8 = .ok (.aload_n 0, 1) := by decide +kernel
theorem d_ag_setLie_9 : decode (mz_c M_ag_setLie) 9 = .ok (.getfield 15, 3) := by decide +kernel
theorem d_ag_setLie_12 : decode (mz_c M_ag_setLie) 12 = .ok (.iload_n 1, 1) := by decide +kernel
theorem d_ag_setLie_13 : decode (mz_c M_ag_setLie) 13 = .ok (.iload_n 3, 1) := by decide +kernel
theorem d_ag_setLie_14 : decode (mz_c M_ag_setLie) 14 = .ok (.invokestatic 38, 3) := by decide +kernel
theorem d_ag_setLie_17 : decode (mz_c M_ag_setLie) 17 = .ok (.iload 4, 2) := by decide +kernel
theorem d_ag_setLie_19 : decode (mz_c M_ag_setLie) 19 = .ok (.iastore, 1) := by decide +kernel
theorem d_ag_setLie_20 : decode (mz_c M_ag_setLie) 20 = .ok (.goto 16, 3) := by decide +kernel
theorem d_ag_setLie_23 : decode (mz_c M_ag_setLie) 23 = .ok (.aload_n 0, 1) := by decide +kernel
theorem d_ag_setLie_24 : decode (mz_c M_ag_setLie) 24 = .ok (.getfield 19, 3) := by decide +kernel
theorem d_ag_setLie_27 : decode (mz_c M_ag_setLie) 27 = .ok (.iload_n 1, 1) := by decide +kernel
theorem d_ag_setLie_28 : decode (mz_c M_ag_setLie) 28 = .ok (.iload_n 2, 1) := by decide +kernel
theorem d_ag_setLie_29 : decode (mz_c M_ag_setLie) 29 = .ok (.iload_n 3, 1) := by decide +kernel
theorem d_ag_setLie_30 : decode (mz_c M_ag_setLie) 30 = .ok (.invokestatic 42, 3) := by decide +kernel
theorem d_ag_setLie_33 : decode (mz_c M_ag_setLie) 33 = .ok (.iload 4, 2) := by decide +kernel
theorem d_ag_setLie_35 : decode (mz_c M_ag_setLie) 35 = .ok (.iastore, 1) := by decide +kernel
theorem d_ag_setLie_36 : decode (mz_c M_ag_setLie) 36 = .ok (.return_, 1) := by decide +kernel
theorem d_ag_goOn_0 : decode (mz_c M_ag_goOn) 0 = .ok (.aload_n 0, 1) := by decide +kernel
theorem d_ag_goOn_1 : decode (mz_c M_ag_goOn) 1 = .ok (.dup, 1) := by decide +kernel
theorem d_ag_goOn_2 : decode (mz_c M_ag_goOn) 2 = .ok (.getfield 35, 3) := by decide +kernel
theorem d_ag_goOn_5 : decode (mz_c M_ag_goOn) 5 = .ok (.iconst 1, 1) := by decide +kernel
theorem d_ag_goOn_6 : decode (mz_c M_ag_goOn) 6 = .ok (.iadd, 1) := by decide +kernel
theorem d_ag_goOn_7 : decode (mz_c M_ag_goOn) 7 = .ok (.putfield 35, 3) := by decide +kernel
theorem d_ag_goOn_10 : decode (mz_c M_ag_goOn) 10 = .ok (.aload_n 0, 1) := by decide +kernel
theorem d_ag_goOn_11 : decode (mz_c M_ag_goOn) 11 = .ok (.invokevirtual 46, 3) := by decide +kernel
theorem d_ag_goOn_14 : decode (mz_c M_ag_goOn) 14 = .ok (.ifCond .eq 45, 3) := by decide +kernel
theorem d_ag_goOn_17 : decode (mz_c M_ag_goOn) 17 = .ok (.iconst 0, 1) := by decide +kernel
theorem d_ag_goOn_18 : decode (mz_c M_ag_goOn) 18 = .ok (.istore_n 2, 1) := by decide +kernel
theorem d_ag_goOn_19 : decode (mz_c M_ag_goOn) 19 = .ok (.iload_n 2, 1) := by decide +kernel
theorem d_ag_goOn_20 : decode (mz_c M_ag_goOn) 20 = .ok (.iconst 4, 1) := by decide +kernel
theorem d_ag_goOn_21 : decode (mz_c M_ag_goOn) 21 = .ok (.if_icmp .ge 38, 3) := by decide +kernel
theorem d_ag_goOn_24 : decode (mz_c M_ag_goOn) 24 = .ok (.iconst 0, 1) := by decide +kernel
theorem d_ag_goOn_25 : decode (mz_c M_ag_goOn) 25 = .ok (.istore_n 3, 1) := by decide +kernel
theorem d_ag_goOn_26 : decode (mz_c M_ag_goOn) 26 = .ok (.iload_n 3, 1) := by decide +kernel
theorem d_ag_goOn_27 : decode (mz_c M_ag_goOn) 27 = .ok (.iload_n 1, 1) := by decide +kernel
theorem d_ag_goOn_28 : decode (mz_c M_ag_goOn) 28 = .ok (.if_icmp .ge 25, 3) := by decide +kernel
theorem d_ag_goOn_31 : decode (mz_c M_ag_goOn) 31 = .ok (.aload_n 0, 1) := by decide +kernel
theorem d_ag_goOn_32 : decode (mz_c M_ag_goOn) 32 = .ok (.getfield 25, 3) := by decide +kernel
theorem d_ag_goOn_35 : decode (mz_c M_ag_goOn) 35 = .ok (.iload_n 2, 1) := by decide +kernel
theorem d_ag_goOn_36 : decode (mz_c M_ag_goOn) 36 = .ok (.iload_n 3, 1) := by decide +kernel
theorem d_ag_goOn_37 : decode (mz_c M_ag_goOn) 37 = .ok (.invokestatic 50, 3) := by decide +kernel
theorem d_ag_goOn_40 : decode (mz_c M_ag_goOn) 40 = .ok (.aload_n 0, 1) := by decide +kernel
theorem d_ag_goOn_41 : decode (mz_c M_ag_goOn) 41 = .ok (.iload_n 2, 1) := by decide +kernel
theorem d_ag_goOn_42 : decode (mz_c M_ag_goOn) 42 = .ok (.iload_n 3, 1) := by decide +kernel
theorem d_ag_goOn_43 : decode (mz_c M_ag_goOn) 43 = .ok (.invokevirtual 53, 3) := by decide +kernel
theorem d_ag_goOn_46 : decode (mz_c M_ag_goOn) 46 = .ok (.iastore, 1) := by decide +kernel
theorem d_ag_goOn_47 : decode (mz_c M_ag_goOn) 47 = .ok (.iinc 3 1, 3) := by decide +kernel
theorem d_ag_goOn_50 : decode (mz_c M_ag_goOn) 50 = .ok (.goto (-24), 3) := by decide +kernel
theorem d_ag_goOn_53 : decode (mz_c M_ag_goOn) 53 = .ok (.iinc 2 1, 3) := by decide +kernel
theorem d_ag_goOn_56 : decode (mz_c M_ag_goOn) 56 = .ok (.goto (-37), 3) := by decide +kernel
theorem d_ag_goOn_59 : decode (mz_c M_ag_goOn) 59 = .ok (.aload_n 0, 1) := by decide +kernel
theorem d_ag_goOn_60 : decode (mz_c M_ag_goOn) 60 = .ok (.getfield 35, 3) := by decide +kernel
theorem d_ag_goOn_63 : decode (mz_c M_ag_goOn) 63 = .ok (.ireturn, 1) := by decide +kernel
theorem d_ag_agreedBook_0 : decode (mz_c M_ag_agreedBook) 0 = .ok (.aload_n 0, 1) := by decide +kernel
theorem d_ag_agreedBook_1 : decode (mz_c M_ag_agreedBook) 1 = .ok (.getfield 25, 3) := by decide +kernel
theorem d_ag_agreedBook_4 : decode (mz_c M_ag_agreedBook) 4 = .ok (.iload_n 1, 1) := by decide +kernel
theorem d_ag_agreedBook_5 : decode (mz_c M_ag_agreedBook) 5 = .ok (.iload_n 2, 1) := by decide +kernel
theorem d_ag_agreedBook_6 : decode (mz_c M_ag_agreedBook) 6 = .ok (.invokestatic 50, 3) := by decide +kernel
theorem d_ag_agreedBook_9 : decode (mz_c M_ag_agreedBook) 9 = .ok (.iaload, 1) := by decide +kernel
theorem d_ag_agreedBook_10 : decode (mz_c M_ag_agreedBook) 10 = .ok (.ireturn, 1) := by decide +kernel
theorem d_ag_agreeOn_0 : decode (mz_c M_ag_agreeOn) 0 = .ok (.iconst 0, 1) := by decide +kernel
theorem d_ag_agreeOn_1 : decode (mz_c M_ag_agreeOn) 1 = .ok (.istore_n 3, 1) := by decide +kernel
theorem d_ag_agreeOn_2 : decode (mz_c M_ag_agreeOn) 2 = .ok (.iload_n 3, 1) := by decide +kernel
theorem d_ag_agreeOn_3 : decode (mz_c M_ag_agreeOn) 3 = .ok (.iconst 4, 1) := by decide +kernel
theorem d_ag_agreeOn_4 : decode (mz_c M_ag_agreeOn) 4 = .ok (.if_icmp .ge 35, 3) := by decide +kernel
theorem d_ag_agreeOn_7 : decode (mz_c M_ag_agreeOn) 7 = .ok (.aload_n 0, 1) := by decide +kernel
theorem d_ag_agreeOn_8 : decode (mz_c M_ag_agreeOn) 8 = .ok (.getfield 22, 3) := by decide +kernel
theorem d_ag_agreeOn_11 : decode (mz_c M_ag_agreeOn) 11 = .ok (.iload_n 3, 1) := by decide +kernel
theorem d_ag_agreeOn_12 : decode (mz_c M_ag_agreeOn) 12 = .ok (.iload_n 3, 1) := by decide +kernel
theorem d_ag_agreeOn_13 : decode (mz_c M_ag_agreeOn) 13 = .ok (.iload_n 1, 1) := by decide +kernel
theorem d_ag_agreeOn_14 : decode (mz_c M_ag_agreeOn) 14 = .ok (.if_icmp .ne 11, 3) := by decide +kernel
theorem d_ag_agreeOn_17 : decode (mz_c M_ag_agreeOn) 17 = .ok (.iload_n 3, 1) := by decide +kernel
theorem d_ag_agreeOn_18 : decode (mz_c M_ag_agreeOn) 18 = .ok (.iload_n 2, 1) := by decide +kernel
theorem d_ag_agreeOn_19 : decode (mz_c M_ag_agreeOn) 19 = .ok (.invokestatic 56, 3) := by decide +kernel
theorem d_ag_agreeOn_22 : decode (mz_c M_ag_agreeOn) 22 = .ok (.goto 10, 3) := by decide +kernel
theorem d_ag_agreeOn_25 : decode (mz_c M_ag_agreeOn) 25 = .ok (.aload_n 0, 1) := by decide +kernel
theorem d_ag_agreeOn_26 : decode (mz_c M_ag_agreeOn) 26 = .ok (.iload_n 1, 1) := by decide +kernel
theorem d_ag_agreeOn_27 : decode (mz_c M_ag_agreeOn) 27 = .ok (.iload_n 3, 1) := by decide +kernel
theorem d_ag_agreeOn_28 : decode (mz_c M_ag_agreeOn) 28 = .ok (.iload_n 2, 1) := by decide +kernel
theorem d_ag_agreeOn_29 : decode (mz_c M_ag_agreeOn) 29 = .ok (.invokevirtual 59, 3) := by decide +kernel
theorem d_ag_agreeOn_32 : decode (mz_c M_ag_agreeOn) 32 = .ok (.iastore, 1) := by decide +kernel
theorem d_ag_agreeOn_33 : decode (mz_c M_ag_agreeOn) 33 = .ok (.iinc 3 1, 3) := by decide +kernel
theorem d_ag_agreeOn_36 : decode (mz_c M_ag_agreeOn) 36 = .ok (.goto (-34), 3) := by decide +kernel
theorem d_ag_agreeOn_39 : decode (mz_c M_ag_agreeOn) 39 = .ok (.iconst 0, 1) := by decide +kernel
theorem d_ag_agreeOn_40 : decode (mz_c M_ag_agreeOn) 40 = .ok (.istore_n 3, 1) := by decide +kernel
theorem d_ag_agreeOn_41 : decode (mz_c M_ag_agreeOn) 41 = .ok (.iload_n 3, 1) := by decide +kernel
theorem d_ag_agreeOn_42 : decode (mz_c M_ag_agreeOn) 42 = .ok (.iconst 4, 1) := by decide +kernel
theorem d_ag_agreeOn_43 : decode (mz_c M_ag_agreeOn) 43 = .ok (.if_icmp .ge 30, 3) := by decide +kernel
theorem d_ag_agreeOn_46 : decode (mz_c M_ag_agreeOn) 46 = .ok (.aload_n 0, 1) := by decide +kernel
theorem d_ag_agreeOn_47 : decode (mz_c M_ag_agreeOn) 47 = .ok (.aload_n 0, 1) := by decide +kernel
theorem d_ag_agreeOn_48 : decode (mz_c M_ag_agreeOn) 48 = .ok (.getfield 22, 3) := by decide +kernel
theorem d_ag_agreeOn_51 : decode (mz_c M_ag_agreeOn) 51 = .ok (.iload_n 3, 1) := by decide +kernel
theorem d_ag_agreeOn_52 : decode (mz_c M_ag_agreeOn) 52 = .ok (.iaload, 1) := by decide +kernel
theorem d_ag_agreeOn_53 : decode (mz_c M_ag_agreeOn) 53 = .ok (.invokevirtual 62, 3) := by decide +kernel
theorem d_ag_agreeOn_56 : decode (mz_c M_ag_agreeOn) 56 = .ok (.iconst 3, 1) := by decide +kernel
theorem d_ag_agreeOn_57 : decode (mz_c M_ag_agreeOn) 57 = .ok (.if_icmp .lt 10, 3) := by decide +kernel
theorem d_ag_agreeOn_60 : decode (mz_c M_ag_agreeOn) 60 = .ok (.aload_n 0, 1) := by decide +kernel
theorem d_ag_agreeOn_61 : decode (mz_c M_ag_agreeOn) 61 = .ok (.getfield 22, 3) := by decide +kernel
theorem d_ag_agreeOn_64 : decode (mz_c M_ag_agreeOn) 64 = .ok (.iload_n 3, 1) := by decide +kernel
theorem d_ag_agreeOn_65 : decode (mz_c M_ag_agreeOn) 65 = .ok (.iaload, 1) := by decide +kernel
theorem d_ag_agreeOn_66 : decode (mz_c M_ag_agreeOn) 66 = .ok (.ireturn, 1) := by decide +kernel
theorem d_ag_agreeOn_67 : decode (mz_c M_ag_agreeOn) 67 = .ok (.iinc 3 1, 3) := by decide +kernel
theorem d_ag_agreeOn_70 : decode (mz_c M_ag_agreeOn) 70 = .ok (.goto (-29), 3) := by decide +kernel
theorem d_ag_agreeOn_73 : decode (mz_c M_ag_agreeOn) 73 = .ok (.bipush 24, 2) := by decide +kernel
theorem d_ag_agreeOn_75 : decode (mz_c M_ag_agreeOn) 75 = .ok (.ireturn, 1) := by decide +kernel
theorem d_ag_wordsLike_0 : decode (mz_c M_ag_wordsLike) 0 = .ok (.iconst 0, 1) := by decide +kernel
theorem d_ag_wordsLike_1 : decode (mz_c M_ag_wordsLike) 1 = .ok (.istore_n 2, 1) := by decide +kernel
theorem d_ag_wordsLike_2 : decode (mz_c M_ag_wordsLike) 2 = .ok (.iconst 0, 1) := by decide +kernel
theorem d_ag_wordsLike_3 : decode (mz_c M_ag_wordsLike) 3 = .ok (.istore_n 3, 1) := by decide +kernel
theorem d_ag_wordsLike_4 : decode (mz_c M_ag_wordsLike) 4 = .ok (.iload_n 3, 1) := by decide +kernel
theorem d_ag_wordsLike_5 : decode (mz_c M_ag_wordsLike) 5 = .ok (.iconst 4, 1) := by decide +kernel
theorem d_ag_wordsLike_6 : decode (mz_c M_ag_wordsLike) 6 = .ok (.if_icmp .ge 29, 3) := by decide +kernel
theorem d_ag_wordsLike_9 : decode (mz_c M_ag_wordsLike) 9 = .ok (.aload_n 0, 1) := by decide +kernel
theorem d_ag_wordsLike_10 : decode (mz_c M_ag_wordsLike) 10 = .ok (.getfield 9, 3) := by decide +kernel
theorem d_ag_wordsLike_13 : decode (mz_c M_ag_wordsLike) 13 = .ok (.aload_n 0, 1) := by decide +kernel
theorem d_ag_wordsLike_14 : decode (mz_c M_ag_wordsLike) 14 = .ok (.getfield 22, 3) := by decide +kernel
theorem d_ag_wordsLike_17 : decode (mz_c M_ag_wordsLike) 17 = .ok (.iload_n 3, 1) := by decide +kernel
theorem d_ag_wordsLike_18 : decode (mz_c M_ag_wordsLike) 18 = .ok (.iaload, 1) := by decide +kernel
theorem d_ag_wordsLike_19 : decode (mz_c M_ag_wordsLike) 19 = .ok (.iload_n 1, 1) := by decide +kernel
theorem d_ag_wordsLike_20 : decode (mz_c M_ag_wordsLike) 20 = .ok (.invokevirtual 66, 3) := by decide +kernel
theorem d_ag_wordsLike_23 : decode (mz_c M_ag_wordsLike) 23 = .ok (.ifCond .eq 6, 3) := by decide +kernel
theorem d_ag_wordsLike_26 : decode (mz_c M_ag_wordsLike) 26 = .ok (.iinc 2 1, 3) := by decide +kernel
theorem d_ag_wordsLike_29 : decode (mz_c M_ag_wordsLike) 29 = .ok (.iinc 3 1, 3) := by decide +kernel
theorem d_ag_wordsLike_32 : decode (mz_c M_ag_wordsLike) 32 = .ok (.goto (-28), 3) := by decide +kernel
theorem d_ag_wordsLike_35 : decode (mz_c M_ag_wordsLike) 35 = .ok (.iload_n 2, 1) := by decide +kernel
theorem d_ag_wordsLike_36 : decode (mz_c M_ag_wordsLike) 36 = .ok (.ireturn, 1) := by decide +kernel
theorem d_ag_word_0 : decode (mz_c M_ag_word) 0 = .ok (.aload_n 0, 1) := by decide +kernel
theorem d_ag_word_1 : decode (mz_c M_ag_word) 1 = .ok (.iload_n 2, 1) := by decide +kernel
theorem d_ag_word_2 : decode (mz_c M_ag_word) 2 = .ok (.iload_n 1, 1) := by decide +kernel
theorem d_ag_word_3 : decode (mz_c M_ag_word) 3 = .ok (.iload_n 3, 1) := by decide +kernel
theorem d_ag_word_4 : decode (mz_c M_ag_word) 4 = .ok (.invokevirtual 72, 3) := by decide +kernel
theorem d_ag_word_7 : decode (mz_c M_ag_word) 7 = .ok (.istore 4, 2) := by decide +kernel
theorem d_ag_word_9 : decode (mz_c M_ag_word) 9 = .ok (.iconst (-1), 1) := by decide +kernel
theorem d_ag_word_10 : decode (mz_c M_ag_word) 10 = .ok (.istore 5, 2) := by decide +kernel
theorem d_ag_word_12 : decode (mz_c M_ag_word) 12 = .ok (.iconst 0, 1) := by decide +kernel
theorem d_ag_word_13 : decode (mz_c M_ag_word) 13 = .ok (.istore 6, 2) := by decide +kernel
theorem d_ag_word_15 : decode (mz_c M_ag_word) 15 = .ok (.iload 6, 2) := by decide +kernel
theorem d_ag_word_17 : decode (mz_c M_ag_word) 17 = .ok (.iconst 4, 1) := by decide +kernel
theorem d_ag_word_18 : decode (mz_c M_ag_word) 18 = .ok (.if_icmp .ge 76, 3) := by decide +kernel
theorem d_ag_word_21 : decode (mz_c M_ag_word) 21 = .ok (.iload 6, 2) := by decide +kernel
theorem d_ag_word_23 : decode (mz_c M_ag_word) 23 = .ok (.iload_n 1, 1) := by decide +kernel
theorem d_ag_word_24 : decode (mz_c M_ag_word) 24 = .ok (.if_icmp .eq 64, 3) := by decide +kernel
theorem d_ag_word_27 : decode (mz_c M_ag_word) 27 = .ok (.iload 6, 2) := by decide +kernel
theorem d_ag_word_29 : decode (mz_c M_ag_word) 29 = .ok (.iload_n 2, 1) := by decide +kernel
theorem d_ag_word_30 : decode (mz_c M_ag_word) 30 = .ok (.if_icmp .eq 58, 3) := by decide +kernel
theorem d_ag_word_33 : decode (mz_c M_ag_word) 33 = .ok (.aload_n 0, 1) := by decide +kernel
theorem d_ag_word_34 : decode (mz_c M_ag_word) 34 = .ok (.iload 6, 2) := by decide +kernel
theorem d_ag_word_36 : decode (mz_c M_ag_word) 36 = .ok (.iload_n 2, 1) := by decide +kernel
theorem d_ag_word_37 : decode (mz_c M_ag_word) 37 = .ok (.iload_n 1, 1) := by decide +kernel
theorem d_ag_word_38 : decode (mz_c M_ag_word) 38 = .ok (.iload_n 3, 1) := by decide +kernel
theorem d_ag_word_39 : decode (mz_c M_ag_word) 39 = .ok (.invokevirtual 75, 3) := by decide +kernel
theorem d_ag_word_42 : decode (mz_c M_ag_word) 42 = .ok (.istore 7, 2) := by decide +kernel
theorem d_ag_word_44 : decode (mz_c M_ag_word) 44 = .ok (.aload_n 0, 1) := by decide +kernel
theorem d_ag_word_45 : decode (mz_c M_ag_word) 45 = .ok (.getfield 9, 3) := by decide +kernel
theorem d_ag_word_48 : decode (mz_c M_ag_word) 48 = .ok (.iload 7, 2) := by decide +kernel
theorem d_ag_word_50 : decode (mz_c M_ag_word) 50 = .ok (.iload 4, 2) := by decide +kernel
theorem d_ag_word_52 : decode (mz_c M_ag_word) 52 = .ok (.invokevirtual 66, 3) := by decide +kernel
theorem d_ag_word_55 : decode (mz_c M_ag_word) 55 = .ok (.ifCond .eq 6, 3) := by decide +kernel
theorem d_ag_word_58 : decode (mz_c M_ag_word) 58 = .ok (.iload 4, 2) := by decide +kernel
theorem d_ag_word_60 : decode (mz_c M_ag_word) 60 = .ok (.ireturn, 1) := by decide +kernel
theorem d_ag_word_61 : decode (mz_c M_ag_word) 61 = .ok (.iload 5, 2) := by decide +kernel
theorem d_ag_word_63 : decode (mz_c M_ag_word) 63 = .ok (.iconst (-1), 1) := by decide +kernel
theorem d_ag_word_64 : decode (mz_c M_ag_word) 64 = .ok (.if_icmp .eq 20, 3) := by decide +kernel
theorem d_ag_word_67 : decode (mz_c M_ag_word) 67 = .ok (.aload_n 0, 1) := by decide +kernel
theorem d_ag_word_68 : decode (mz_c M_ag_word) 68 = .ok (.getfield 9, 3) := by decide +kernel
theorem d_ag_word_71 : decode (mz_c M_ag_word) 71 = .ok (.iload 7, 2) := by decide +kernel
theorem d_ag_word_73 : decode (mz_c M_ag_word) 73 = .ok (.iload 5, 2) := by decide +kernel
theorem d_ag_word_75 : decode (mz_c M_ag_word) 75 = .ok (.invokevirtual 66, 3) := by decide +kernel
theorem d_ag_word_78 : decode (mz_c M_ag_word) 78 = .ok (.ifCond .eq 6, 3) := by decide +kernel
theorem d_ag_word_81 : decode (mz_c M_ag_word) 81 = .ok (.iload 7, 2) := by decide +kernel
theorem d_ag_word_83 : decode (mz_c M_ag_word) 83 = .ok (.ireturn, 1) := by decide +kernel
theorem d_ag_word_84 : decode (mz_c M_ag_word) 84 = .ok (.iload 7, 2) := by decide +kernel
theorem d_ag_word_86 : decode (mz_c M_ag_word) 86 = .ok (.istore 5, 2) := by decide +kernel
theorem d_ag_word_88 : decode (mz_c M_ag_word) 88 = .ok (.iinc 6 1, 3) := by decide +kernel
theorem d_ag_word_91 : decode (mz_c M_ag_word) 91 = .ok (.goto (-76), 3) := by decide +kernel
theorem d_ag_word_94 : decode (mz_c M_ag_word) 94 = .ok (.bipush 24, 2) := by decide +kernel
theorem d_ag_word_96 : decode (mz_c M_ag_word) 96 = .ok (.ireturn, 1) := by decide +kernel
theorem d_ag_own_0 : decode (mz_c M_ag_own) 0 = .ok (.iconst 4, 1) := by decide +kernel
theorem d_ag_own_1 : decode (mz_c M_ag_own) 1 = .ok (.iload_n 1, 1) := by decide +kernel
theorem d_ag_own_2 : decode (mz_c M_ag_own) 2 = .ok (.imul, 1) := by decide +kernel
theorem d_ag_own_3 : decode (mz_c M_ag_own) 3 = .ok (.iload_n 0, 1) := by decide +kernel
theorem d_ag_own_4 : decode (mz_c M_ag_own) 4 = .ok (.iadd, 1) := by decide +kernel
theorem d_ag_own_5 : decode (mz_c M_ag_own) 5 = .ok (.ireturn, 1) := by decide +kernel
theorem d_ag_told_0 : decode (mz_c M_ag_told) 0 = .ok (.iload_n 1, 1) := by decide +kernel
theorem d_ag_told_1 : decode (mz_c M_ag_told) 1 = .ok (.aload_n 0, 1) := by decide +kernel
theorem d_ag_told_2 : decode (mz_c M_ag_told) 2 = .ok (.getfield 31, 3) := by decide +kernel
theorem d_ag_told_5 : decode (mz_c M_ag_told) 5 = .ok (.if_icmp .ne 16, 3) := by decide +kernel
theorem d_ag_told_8 : decode (mz_c M_ag_told) 8 = .ok (.aload_n 0, 1) := by decide +kernel
theorem d_ag_told_9 : decode (mz_c M_ag_told) 9 = .ok (.getfield 15, 3) := by decide +kernel
theorem d_ag_told_12 : decode (mz_c M_ag_told) 12 = .ok (.iload_n 2, 1) := by decide +kernel
theorem d_ag_told_13 : decode (mz_c M_ag_told) 13 = .ok (.iload_n 3, 1) := by decide +kernel
theorem d_ag_told_14 : decode (mz_c M_ag_told) 14 = .ok (.invokestatic 38, 3) := by decide +kernel
theorem d_ag_told_17 : decode (mz_c M_ag_told) 17 = .ok (.iaload, 1) := by decide +kernel
theorem d_ag_told_18 : decode (mz_c M_ag_told) 18 = .ok (.goto 4, 3) := by decide +kernel
theorem d_ag_told_21 : decode (mz_c M_ag_told) 21 = .ok (.iconst (-1), 1) := by decide +kernel
theorem d_ag_told_22 : decode (mz_c M_ag_told) 22 = .ok (.istore 4, 2) := by decide +kernel
theorem d_ag_told_24 : decode (mz_c M_ag_told) 24 = .ok (.iload 4, 2) := by decide +kernel
theorem d_ag_told_26 : decode (mz_c M_ag_told) 26 = .ok (.iconst (-1), 1) := by decide +kernel
theorem d_ag_told_27 : decode (mz_c M_ag_told) 27 = .ok (.if_icmp .eq 8, 3) := by decide +kernel
theorem d_ag_told_30 : decode (mz_c M_ag_told) 30 = .ok (.iload 4, 2) := by decide +kernel
theorem d_ag_told_32 : decode (mz_c M_ag_told) 32 = .ok (.goto 8, 3) := by decide +kernel
theorem d_ag_told_35 : decode (mz_c M_ag_told) 35 = .ok (.iload_n 1, 1) := by decide +kernel
theorem d_ag_told_36 : decode (mz_c M_ag_told) 36 = .ok (.iload_n 3, 1) := by decide +kernel
theorem d_ag_told_37 : decode (mz_c M_ag_told) 37 = .ok (.invokestatic 56, 3) := by decide +kernel
theorem d_ag_told_40 : decode (mz_c M_ag_told) 40 = .ok (.ireturn, 1) := by decide +kernel
theorem d_ag_passed_0 : decode (mz_c M_ag_passed) 0 = .ok (.iload_n 1, 1) := by decide +kernel
theorem d_ag_passed_1 : decode (mz_c M_ag_passed) 1 = .ok (.aload_n 0, 1) := by decide +kernel
theorem d_ag_passed_2 : decode (mz_c M_ag_passed) 2 = .ok (.getfield 31, 3) := by decide +kernel
theorem d_ag_passed_5 : decode (mz_c M_ag_passed) 5 = .ok (.if_icmp .ne 18, 3) := by decide +kernel
theorem d_ag_passed_8 : decode (mz_c M_ag_passed) 8 = .ok (.aload_n 0, 1) := by decide +kernel
theorem d_ag_passed_9 : decode (mz_c M_ag_passed) 9 = .ok (.getfield 19, 3) := by decide +kernel
theorem d_ag_passed_12 : decode (mz_c M_ag_passed) 12 = .ok (.iload_n 3, 1) := by decide +kernel
theorem d_ag_passed_13 : decode (mz_c M_ag_passed) 13 = .ok (.iload_n 2, 1) := by decide +kernel
theorem d_ag_passed_14 : decode (mz_c M_ag_passed) 14 = .ok (.iload 4, 2) := by decide +kernel
theorem d_ag_passed_16 : decode (mz_c M_ag_passed) 16 = .ok (.invokestatic 42, 3) := by decide +kernel
theorem d_ag_passed_19 : decode (mz_c M_ag_passed) 19 = .ok (.iaload, 1) := by decide +kernel
theorem d_ag_passed_20 : decode (mz_c M_ag_passed) 20 = .ok (.goto 4, 3) := by decide +kernel
theorem d_ag_passed_23 : decode (mz_c M_ag_passed) 23 = .ok (.iconst (-1), 1) := by decide +kernel
theorem d_ag_passed_24 : decode (mz_c M_ag_passed) 24 = .ok (.istore 5, 2) := by decide +kernel
theorem d_ag_passed_26 : decode (mz_c M_ag_passed) 26 = .ok (.iload 5, 2) := by decide +kernel
theorem d_ag_passed_28 : decode (mz_c M_ag_passed) 28 = .ok (.iconst (-1), 1) := by decide +kernel
theorem d_ag_passed_29 : decode (mz_c M_ag_passed) 29 = .ok (.if_icmp .eq 8, 3) := by decide +kernel
theorem d_ag_passed_32 : decode (mz_c M_ag_passed) 32 = .ok (.iload 5, 2) := by decide +kernel
theorem d_ag_passed_34 : decode (mz_c M_ag_passed) 34 = .ok (.goto 11, 3) := by decide +kernel
theorem d_ag_passed_37 : decode (mz_c M_ag_passed) 37 = .ok (.aload_n 0, 1) := by decide +kernel
theorem d_ag_passed_38 : decode (mz_c M_ag_passed) 38 = .ok (.iload_n 2, 1) := by decide +kernel
theorem d_ag_passed_39 : decode (mz_c M_ag_passed) 39 = .ok (.iload_n 1, 1) := by decide +kernel
theorem d_ag_passed_40 : decode (mz_c M_ag_passed) 40 = .ok (.iload 4, 2) := by decide +kernel
theorem d_ag_passed_42 : decode (mz_c M_ag_passed) 42 = .ok (.invokevirtual 72, 3) := by decide +kernel
theorem d_ag_passed_45 : decode (mz_c M_ag_passed) 45 = .ok (.ireturn, 1) := by decide +kernel
theorem d_ag_toldPlace_0 : decode (mz_c M_ag_toldPlace) 0 = .ok (.bipush 6, 2) := by decide +kernel
theorem d_ag_toldPlace_2 : decode (mz_c M_ag_toldPlace) 2 = .ok (.iload_n 0, 1) := by decide +kernel
theorem d_ag_toldPlace_3 : decode (mz_c M_ag_toldPlace) 3 = .ok (.imul, 1) := by decide +kernel
theorem d_ag_toldPlace_4 : decode (mz_c M_ag_toldPlace) 4 = .ok (.iload_n 1, 1) := by decide +kernel
theorem d_ag_toldPlace_5 : decode (mz_c M_ag_toldPlace) 5 = .ok (.iadd, 1) := by decide +kernel
theorem d_ag_toldPlace_6 : decode (mz_c M_ag_toldPlace) 6 = .ok (.ireturn, 1) := by decide +kernel
theorem d_ag_passedPlace_0 : decode (mz_c M_ag_passedPlace) 0 = .ok (.bipush 6, 2) := by decide +kernel
theorem d_ag_passedPlace_2 : decode (mz_c M_ag_passedPlace) 2 = .ok (.iconst 4, 1) := by decide +kernel
theorem d_ag_passedPlace_3 : decode (mz_c M_ag_passedPlace) 3 = .ok (.iload_n 0, 1) := by decide +kernel
theorem d_ag_passedPlace_4 : decode (mz_c M_ag_passedPlace) 4 = .ok (.imul, 1) := by decide +kernel
theorem d_ag_passedPlace_5 : decode (mz_c M_ag_passedPlace) 5 = .ok (.iload_n 1, 1) := by decide +kernel
theorem d_ag_passedPlace_6 : decode (mz_c M_ag_passedPlace) 6 = .ok (.iadd, 1) := by decide +kernel
theorem d_ag_passedPlace_7 : decode (mz_c M_ag_passedPlace) 7 = .ok (.imul, 1) := by decide +kernel
theorem d_ag_passedPlace_8 : decode (mz_c M_ag_passedPlace) 8 = .ok (.iload_n 2, 1) := by decide +kernel
theorem d_ag_passedPlace_9 : decode (mz_c M_ag_passedPlace) 9 = .ok (.iadd, 1) := by decide +kernel
theorem d_ag_passedPlace_10 : decode (mz_c M_ag_passedPlace) 10 = .ok (.ireturn, 1) := by decide +kernel
theorem d_ag_vectorPlace_0 : decode (mz_c M_ag_vectorPlace) 0 = .ok (.bipush 6, 2) := by decide +kernel
theorem d_ag_vectorPlace_2 : decode (mz_c M_ag_vectorPlace) 2 = .ok (.iload_n 0, 1) := by decide +kernel
theorem d_ag_vectorPlace_3 : decode (mz_c M_ag_vectorPlace) 3 = .ok (.imul, 1) := by decide +kernel
theorem d_ag_vectorPlace_4 : decode (mz_c M_ag_vectorPlace) 4 = .ok (.iload_n 1, 1) := by decide +kernel
theorem d_ag_vectorPlace_5 : decode (mz_c M_ag_vectorPlace) 5 = .ok (.iadd, 1) := by decide +kernel
theorem d_ag_vectorPlace_6 : decode (mz_c M_ag_vectorPlace) 6 = .ok (.ireturn, 1) := by decide +kernel
theorem d_bk_init_0 : decode (mz_c M_bk_init) 0 = .ok (.aload_n 0, 1) := by decide +kernel
theorem d_bk_init_1 : decode (mz_c M_bk_init) 1 = .ok (.invokespecial 3, 3) := by decide +kernel
theorem d_bk_init_4 : decode (mz_c M_bk_init) 4 = .ok (.aload_n 0, 1) := by decide +kernel
theorem d_bk_init_5 : decode (mz_c M_bk_init) 5 = .ok (.bipush 25, 2) := by decide +kernel
theorem d_bk_init_7 : decode (mz_c M_bk_init) 7 = .ok (.newarray .int, 2) := by decide +kernel
theorem d_bk_init_9 : decode (mz_c M_bk_init) 9 = .ok (.putfield 9, 3) := by decide +kernel
theorem d_bk_init_12 : decode (mz_c M_bk_init) 12 = .ok (.aload_n 0, 1) := by decide +kernel
theorem d_bk_init_13 : decode (mz_c M_bk_init) 13 = .ok (.bipush 25, 2) := by decide +kernel
theorem d_bk_init_15 : decode (mz_c M_bk_init) 15 = .ok (.newarray .long, 2) := by decide +kernel
theorem d_bk_init_17 : decode (mz_c M_bk_init) 17 = .ok (.putfield 15, 3) := by decide +kernel
theorem d_bk_init_20 : decode (mz_c M_bk_init) 20 = .ok (.aload_n 0, 1) := by decide +kernel
theorem d_bk_init_21 : decode (mz_c M_bk_init) 21 = .ok (.sipush 240, 3) := by decide +kernel
theorem d_bk_init_24 : decode (mz_c M_bk_init) 24 = .ok (.newarray .int, 2) := by decide +kernel
theorem d_bk_init_26 : decode (mz_c M_bk_init) 26 = .ok (.putfield 19, 3) := by decide +kernel
theorem d_bk_init_29 : decode (mz_c M_bk_init) 29 = .ok (.aload_n 0, 1) := by decide +kernel
theorem d_bk_init_30 : decode (mz_c M_bk_init) 30 = .ok (.sipush 240, 3) := by decide +kernel
theorem d_bk_init_33 : decode (mz_c M_bk_init) 33 = .ok (.newarray .int, 2) := by decide +kernel
theorem d_bk_init_35 : decode (mz_c M_bk_init) 35 = .ok (.putfield 22, 3) := by decide +kernel
theorem d_bk_init_38 : decode (mz_c M_bk_init) 38 = .ok (.aload_n 0, 1) := by decide +kernel
theorem d_bk_init_39 : decode (mz_c M_bk_init) 39 = .ok (.sipush 240, 3) := by decide +kernel
theorem d_bk_init_42 : decode (mz_c M_bk_init) 42 = .ok (.newarray .int, 2) := by decide +kernel
theorem d_bk_init_44 : decode (mz_c M_bk_init) 44 = .ok (.putfield 25, 3) := by decide +kernel
theorem d_bk_init_47 : decode (mz_c M_bk_init) 47 = .ok (.aload_n 0, 1) := by decide +kernel
theorem d_bk_init_48 : decode (mz_c M_bk_init) 48 = .ok (.sipush 240, 3) := by decide +kernel
theorem d_bk_init_51 : decode (mz_c M_bk_init) 51 = .ok (.newarray .int, 2) := by decide +kernel
theorem d_bk_init_53 : decode (mz_c M_bk_init) 53 = .ok (.putfield 28, 3) := by decide +kernel
theorem d_bk_init_56 : decode (mz_c M_bk_init) 56 = .ok (.return_, 1) := by decide +kernel
theorem d_bk_empty_0 : decode (mz_c M_bk_empty) 0 = .ok (.iconst 0, 1) := by decide +kernel
theorem d_bk_empty_1 : decode (mz_c M_bk_empty) 1 = .ok (.istore_n 1, 1) := by decide +kernel
theorem d_bk_empty_2 : decode (mz_c M_bk_empty) 2 = .ok (.iload_n 1, 1) := by decide +kernel
theorem d_bk_empty_3 : decode (mz_c M_bk_empty) 3 = .ok (.aload_n 0, 1) := by decide +kernel
theorem d_bk_empty_4 : decode (mz_c M_bk_empty) 4 = .ok (.getfield 9, 3) := by decide +kernel
theorem d_bk_empty_7 : decode (mz_c M_bk_empty) 7 = .ok (.arraylength, 1) := by decide +kernel
theorem d_bk_empty_8 : decode (mz_c M_bk_empty) 8 = .ok (.if_icmp .ge 23, 3) := by decide +kernel
theorem d_bk_empty_11 : decode (mz_c M_bk_empty) 11 = .ok (.aload_n 0, 1) := by decide +kernel
theorem d_bk_empty_12 : decode (mz_c M_bk_empty) 12 = .ok (.getfield 9, 3) := by decide +kernel
theorem d_bk_empty_15 : decode (mz_c M_bk_empty) 15 = .ok (.iload_n 1, 1) := by decide +kernel
theorem d_bk_empty_16 : decode (mz_c M_bk_empty) 16 = .ok (.iconst 0, 1) := by decide +kernel
theorem d_bk_empty_17 : decode (mz_c M_bk_empty) 17 = .ok (.iastore, 1) := by decide +kernel
theorem d_bk_empty_18 : decode (mz_c M_bk_empty) 18 = .ok (.aload_n 0, 1) := by decide +kernel
theorem d_bk_empty_19 : decode (mz_c M_bk_empty) 19 = .ok (.getfield 15, 3) := by decide +kernel
theorem d_bk_empty_22 : decode (mz_c M_bk_empty) 22 = .ok (.iload_n 1, 1) := by decide +kernel
theorem d_bk_empty_23 : decode (mz_c M_bk_empty) 23 = .ok (.lconst 0, 1) := by decide +kernel
theorem d_bk_empty_24 : decode (mz_c M_bk_empty) 24 = .ok (.lastore, 1) := by decide +kernel
theorem d_bk_empty_25 : decode (mz_c M_bk_empty) 25 = .ok (.iinc 1 1, 3) := by decide +kernel
theorem d_bk_empty_28 : decode (mz_c M_bk_empty) 28 = .ok (.goto (-26), 3) := by decide +kernel
theorem d_bk_empty_31 : decode (mz_c M_bk_empty) 31 = .ok (.return_, 1) := by decide +kernel
theorem d_bk_take_0 : decode (mz_c M_bk_take) 0 = .ok (.aload_n 0, 1) := by decide +kernel
theorem d_bk_take_1 : decode (mz_c M_bk_take) 1 = .ok (.getfield 15, 3) := by decide +kernel
theorem d_bk_take_4 : decode (mz_c M_bk_take) 4 = .ok (.iload_n 1, 1) := by decide +kernel
theorem d_bk_take_5 : decode (mz_c M_bk_take) 5 = .ok (.laload, 1) := by decide +kernel
theorem d_bk_take_6 : decode (mz_c M_bk_take) 6 = .ok (.iload 5, 2) := by decide +kernel
theorem d_bk_take_8 : decode (mz_c M_bk_take) 8 = .ok (.i2l, 1) := by decide +kernel
theorem d_bk_take_9 : decode (mz_c M_bk_take) 9 = .ok (.iload 4, 2) := by decide +kernel
theorem d_bk_take_11 : decode (mz_c M_bk_take) 11 = .ok (.iload 6, 2) := by decide +kernel
theorem d_bk_take_13 : decode (mz_c M_bk_take) 13 = .ok (.invokestatic 31, 3) := by decide +kernel
theorem d_bk_take_16 : decode (mz_c M_bk_take) 16 = .ok (.i2l, 1) := by decide +kernel
theorem d_bk_take_17 : decode (mz_c M_bk_take) 17 = .ok (.lmul, 1) := by decide +kernel
theorem d_bk_take_18 : decode (mz_c M_bk_take) 18 = .ok (.iload_n 3, 1) := by decide +kernel
theorem d_bk_take_19 : decode (mz_c M_bk_take) 19 = .ok (.invokestatic 35, 3) := by decide +kernel
theorem d_bk_take_22 : decode (mz_c M_bk_take) 22 = .ok (.i2l, 1) := by decide +kernel
theorem d_bk_take_23 : decode (mz_c M_bk_take) 23 = .ok (.lmul, 1) := by decide +kernel
theorem d_bk_take_24 : decode (mz_c M_bk_take) 24 = .ok (.ladd, 1) := by decide +kernel
theorem d_bk_take_25 : decode (mz_c M_bk_take) 25 = .ok (.lstore 7, 2) := by decide +kernel
theorem d_bk_take_27 : decode (mz_c M_bk_take) 27 = .ok (.aload_n 0, 1) := by decide +kernel
theorem d_bk_take_28 : decode (mz_c M_bk_take) 28 = .ok (.getfield 9, 3) := by decide +kernel
theorem d_bk_take_31 : decode (mz_c M_bk_take) 31 = .ok (.iload_n 1, 1) := by decide +kernel
theorem d_bk_take_32 : decode (mz_c M_bk_take) 32 = .ok (.iaload, 1) := by decide +kernel
theorem d_bk_take_33 : decode (mz_c M_bk_take) 33 = .ok (.bipush 10, 2) := by decide +kernel
theorem d_bk_take_35 : decode (mz_c M_bk_take) 35 = .ok (.if_icmp .ge 11, 3) := by decide +kernel
theorem d_bk_take_38 : decode (mz_c M_bk_take) 38 = .ok (.lload 7, 2) := by decide +kernel
theorem d_bk_take_40 : decode (mz_c M_bk_take) 40 = .ok (.iload_n 2, 1) := by decide +kernel
theorem d_bk_take_41 : decode (mz_c M_bk_take) 41 = .ok (.i2l, 1) := by decide +kernel
theorem d_bk_take_42 : decode (mz_c M_bk_take) 42 = .ok (.lcmp, 1) := by decide +kernel
theorem d_bk_take_43 : decode (mz_c M_bk_take) 43 = .ok (.ifCond .le 5, 3) := by decide +kernel
theorem d_bk_take_46 : decode (mz_c M_bk_take) 46 = .ok (.iconst 0, 1) := by decide +kernel
theorem d_bk_take_47 : decode (mz_c M_bk_take) 47 = .ok (.ireturn, 1) := by decide +kernel
theorem d_bk_take_48 : decode (mz_c M_bk_take) 48 = .ok (.bipush 10, 2) := by decide +kernel
theorem d_bk_take_50 : decode (mz_c M_bk_take) 50 = .ok (.iload_n 1, 1) := by decide +kernel
theorem d_bk_take_51 : decode (mz_c M_bk_take) 51 = .ok (.imul, 1) := by decide +kernel
theorem d_bk_take_52 : decode (mz_c M_bk_take) 52 = .ok (.aload_n 0, 1) := by decide +kernel
theorem d_bk_take_53 : decode (mz_c M_bk_take) 53 = .ok (.getfield 9, 3) := by decide +kernel
theorem d_bk_take_56 : decode (mz_c M_bk_take) 56 = .ok (.iload_n 1, 1) := by decide +kernel
theorem d_bk_take_57 : decode (mz_c M_bk_take) 57 = .ok (.iaload, 1) := by decide +kernel
theorem d_bk_take_58 : decode (mz_c M_bk_take) 58 = .ok (.iadd, 1) := by decide +kernel
theorem d_bk_take_59 : decode (mz_c M_bk_take) 59 = .ok (.istore 9, 2) := by decide +kernel
theorem d_bk_take_61 : decode (mz_c M_bk_take) 61 = .ok (.aload_n 0, 1) := by decide +kernel
theorem d_bk_take_62 : decode (mz_c M_bk_take) 62 = .ok (.getfield 19, 3) := by decide +kernel
theorem d_bk_take_65 : decode (mz_c M_bk_take) 65 = .ok (.iload 9, 2) := by decide +kernel
theorem d_bk_take_67 : decode (mz_c M_bk_take) 67 = .ok (.iload_n 3, 1) := by decide +kernel
theorem d_bk_take_68 : decode (mz_c M_bk_take) 68 = .ok (.iastore, 1) := by decide +kernel
theorem d_bk_take_69 : decode (mz_c M_bk_take) 69 = .ok (.aload_n 0, 1) := by decide +kernel
theorem d_bk_take_70 : decode (mz_c M_bk_take) 70 = .ok (.getfield 22, 3) := by decide +kernel
theorem d_bk_take_73 : decode (mz_c M_bk_take) 73 = .ok (.iload 9, 2) := by decide +kernel
theorem d_bk_take_75 : decode (mz_c M_bk_take) 75 = .ok (.iload 4, 2) := by decide +kernel
theorem d_bk_take_77 : decode (mz_c M_bk_take) 77 = .ok (.iastore, 1) := by decide +kernel
theorem d_bk_take_78 : decode (mz_c M_bk_take) 78 = .ok (.aload_n 0, 1) := by decide +kernel
theorem d_bk_take_79 : decode (mz_c M_bk_take) 79 = .ok (.getfield 25, 3) := by decide +kernel
theorem d_bk_take_82 : decode (mz_c M_bk_take) 82 = .ok (.iload 9, 2) := by decide +kernel
theorem d_bk_take_84 : decode (mz_c M_bk_take) 84 = .ok (.iload 5, 2) := by decide +kernel
theorem d_bk_take_86 : decode (mz_c M_bk_take) 86 = .ok (.iastore, 1) := by decide +kernel
theorem d_bk_take_87 : decode (mz_c M_bk_take) 87 = .ok (.aload_n 0, 1) := by decide +kernel
theorem d_bk_take_88 : decode (mz_c M_bk_take) 88 = .ok (.getfield 28, 3) := by decide +kernel
theorem d_bk_take_91 : decode (mz_c M_bk_take) 91 = .ok (.iload 9, 2) := by decide +kernel
theorem d_bk_take_93 : decode (mz_c M_bk_take) 93 = .ok (.iload 6, 2) := by decide +kernel
theorem d_bk_take_95 : decode (mz_c M_bk_take) 95 = .ok (.iastore, 1) := by decide +kernel
theorem d_bk_take_96 : decode (mz_c M_bk_take) 96 = .ok (.aload_n 0, 1) := by decide +kernel
theorem d_bk_take_97 : decode (mz_c M_bk_take) 97 = .ok (.getfield 9, 3) := by decide +kernel
theorem d_bk_take_100 : decode (mz_c M_bk_take) 100 = .ok (.iload_n 1, 1) := by decide +kernel
theorem d_bk_take_101 : decode (mz_c M_bk_take) 101 = .ok (.dup2, 1) := by decide +kernel
theorem d_bk_take_102 : decode (mz_c M_bk_take) 102 = .ok (.iaload, 1) := by decide +kernel
theorem d_bk_take_103 : decode (mz_c M_bk_take) 103 = .ok (.iconst 1, 1) := by decide +kernel
theorem d_bk_take_104 : decode (mz_c M_bk_take) 104 = .ok (.iadd, 1) := by decide +kernel
theorem d_bk_take_105 : decode (mz_c M_bk_take) 105 = .ok (.iastore, 1) := by decide +kernel
theorem d_bk_take_106 : decode (mz_c M_bk_take) 106 = .ok (.aload_n 0, 1) := by decide +kernel
theorem d_bk_take_107 : decode (mz_c M_bk_take) 107 = .ok (.getfield 15, 3) := by decide +kernel
theorem d_bk_take_110 : decode (mz_c M_bk_take) 110 = .ok (.iload_n 1, 1) := by decide +kernel
theorem d_bk_take_111 : decode (mz_c M_bk_take) 111 = .ok (.lload 7, 2) := by decide +kernel
theorem d_bk_take_113 : decode (mz_c M_bk_take) 113 = .ok (.lastore, 1) := by decide +kernel
theorem d_bk_take_114 : decode (mz_c M_bk_take) 114 = .ok (.iconst 1, 1) := by decide +kernel
theorem d_bk_take_115 : decode (mz_c M_bk_take) 115 = .ok (.ireturn, 1) := by decide +kernel
theorem d_bk_areEqual_0 : decode (mz_c M_bk_areEqual) 0 = .ok (.aload_n 0, 1) := by decide +kernel
theorem d_bk_areEqual_1 : decode (mz_c M_bk_areEqual) 1 = .ok (.getfield 9, 3) := by decide +kernel
theorem d_bk_areEqual_4 : decode (mz_c M_bk_areEqual) 4 = .ok (.iload_n 1, 1) := by decide +kernel
theorem d_bk_areEqual_5 : decode (mz_c M_bk_areEqual) 5 = .ok (.iaload, 1) := by decide +kernel
theorem d_bk_areEqual_6 : decode (mz_c M_bk_areEqual) 6 = .ok (.aload_n 0, 1) := by decide +kernel
theorem d_bk_areEqual_7 : decode (mz_c M_bk_areEqual) 7 = .ok (.getfield 9, 3) := by decide +kernel
theorem d_bk_areEqual_10 : decode (mz_c M_bk_areEqual) 10 = .ok (.iload_n 2, 1) := by decide +kernel
theorem d_bk_areEqual_11 : decode (mz_c M_bk_areEqual) 11 = .ok (.iaload, 1) := by decide +kernel
theorem d_bk_areEqual_12 : decode (mz_c M_bk_areEqual) 12 = .ok (.if_icmp .eq 5, 3) := by decide +kernel
theorem d_bk_areEqual_15 : decode (mz_c M_bk_areEqual) 15 = .ok (.iconst 0, 1) := by decide +kernel
theorem d_bk_areEqual_16 : decode (mz_c M_bk_areEqual) 16 = .ok (.ireturn, 1) := by decide +kernel
theorem d_bk_areEqual_17 : decode (mz_c M_bk_areEqual) 17 = .ok (.iconst 0, 1) := by decide +kernel
theorem d_bk_areEqual_18 : decode (mz_c M_bk_areEqual) 18 = .ok (.istore_n 3, 1) := by decide +kernel
theorem d_bk_areEqual_19 : decode (mz_c M_bk_areEqual) 19 = .ok (.iload_n 3, 1) := by decide +kernel
theorem d_bk_areEqual_20 : decode (mz_c M_bk_areEqual) 20 = .ok (.aload_n 0, 1) := by decide +kernel
theorem d_bk_areEqual_21 : decode (mz_c M_bk_areEqual) 21 = .ok (.getfield 9, 3) := by decide +kernel
theorem d_bk_areEqual_24 : decode (mz_c M_bk_areEqual) 24 = .ok (.iload_n 1, 1) := by decide +kernel
theorem d_bk_areEqual_25 : decode (mz_c M_bk_areEqual) 25 = .ok (.iaload, 1) := by decide +kernel
theorem d_bk_areEqual_26 : decode (mz_c M_bk_areEqual) 26 = .ok (.if_icmp .ge 30, 3) := by decide +kernel
theorem d_bk_areEqual_29 : decode (mz_c M_bk_areEqual) 29 = .ok (.aload_n 0, 1) := by decide +kernel
theorem d_bk_areEqual_30 : decode (mz_c M_bk_areEqual) 30 = .ok (.bipush 10, 2) := by decide +kernel
theorem d_bk_areEqual_32 : decode (mz_c M_bk_areEqual) 32 = .ok (.iload_n 1, 1) := by decide +kernel
theorem d_bk_areEqual_33 : decode (mz_c M_bk_areEqual) 33 = .ok (.imul, 1) := by decide +kernel
theorem d_bk_areEqual_34 : decode (mz_c M_bk_areEqual) 34 = .ok (.iload_n 3, 1) := by decide +kernel
theorem d_bk_areEqual_35 : decode (mz_c M_bk_areEqual) 35 = .ok (.iadd, 1) := by decide +kernel
theorem d_bk_areEqual_36 : decode (mz_c M_bk_areEqual) 36 = .ok (.bipush 10, 2) := by decide +kernel
theorem d_bk_areEqual_38 : decode (mz_c M_bk_areEqual) 38 = .ok (.iload_n 2, 1) := by decide +kernel
theorem d_bk_areEqual_39 : decode (mz_c M_bk_areEqual) 39 = .ok (.imul, 1) := by decide +kernel
theorem d_bk_areEqual_40 : decode (mz_c M_bk_areEqual) 40 = .ok (.iload_n 3, 1) := by decide +kernel
theorem d_bk_areEqual_41 : decode (mz_c M_bk_areEqual) 41 = .ok (.iadd, 1) := by decide +kernel
theorem d_bk_areEqual_42 : decode (mz_c M_bk_areEqual) 42 = .ok (.invokevirtual 39, 3) := by decide +kernel
theorem d_bk_areEqual_45 : decode (mz_c M_bk_areEqual) 45 = .ok (.ifCond .ne 5, 3) := by decide +kernel
theorem d_bk_areEqual_48 : decode (mz_c M_bk_areEqual) 48 = .ok (.iconst 0, 1) := by decide +kernel
theorem d_bk_areEqual_49 : decode (mz_c M_bk_areEqual) 49 = .ok (.ireturn, 1) := by decide +kernel
theorem d_bk_areEqual_50 : decode (mz_c M_bk_areEqual) 50 = .ok (.iinc 3 1, 3) := by decide +kernel
theorem d_bk_areEqual_53 : decode (mz_c M_bk_areEqual) 53 = .ok (.goto (-34), 3) := by decide +kernel
theorem d_bk_areEqual_56 : decode (mz_c M_bk_areEqual) 56 = .ok (.iconst 1, 1) := by decide +kernel
theorem d_bk_areEqual_57 : decode (mz_c M_bk_areEqual) 57 = .ok (.ireturn, 1) := by decide +kernel
theorem d_bk_detail_0 : decode (mz_c M_bk_detail) 0 = .ok (.iload_n 2, 1) := by decide +kernel
theorem d_bk_detail_1 : decode (mz_c M_bk_detail) 1 = .ok (.tableswitch 48 0 2 #[27, 34, 41], 27) := by decide +kernel
theorem d_bk_detail_28 : decode (mz_c M_bk_detail) 28 = .ok (.aload_n 0, 1) := by decide +kernel
theorem d_bk_detail_29 : decode (mz_c M_bk_detail) 29 = .ok (.getfield 19, 3) := by decide +kernel
theorem d_bk_detail_32 : decode (mz_c M_bk_detail) 32 = .ok (.iload_n 1, 1) := by decide +kernel
theorem d_bk_detail_33 : decode (mz_c M_bk_detail) 33 = .ok (.iaload, 1) := by decide +kernel
theorem d_bk_detail_34 : decode (mz_c M_bk_detail) 34 = .ok (.ireturn, 1) := by decide +kernel
theorem d_bk_detail_35 : decode (mz_c M_bk_detail) 35 = .ok (.aload_n 0, 1) := by decide +kernel
theorem d_bk_detail_36 : decode (mz_c M_bk_detail) 36 = .ok (.getfield 22, 3) := by decide +kernel
theorem d_bk_detail_39 : decode (mz_c M_bk_detail) 39 = .ok (.iload_n 1, 1) := by decide +kernel
theorem d_bk_detail_40 : decode (mz_c M_bk_detail) 40 = .ok (.iaload, 1) := by decide +kernel
theorem d_bk_detail_41 : decode (mz_c M_bk_detail) 41 = .ok (.ireturn, 1) := by decide +kernel
theorem d_bk_detail_42 : decode (mz_c M_bk_detail) 42 = .ok (.aload_n 0, 1) := by decide +kernel
theorem d_bk_detail_43 : decode (mz_c M_bk_detail) 43 = .ok (.getfield 25, 3) := by decide +kernel
theorem d_bk_detail_46 : decode (mz_c M_bk_detail) 46 = .ok (.iload_n 1, 1) := by decide +kernel
theorem d_bk_detail_47 : decode (mz_c M_bk_detail) 47 = .ok (.iaload, 1) := by decide +kernel
theorem d_bk_detail_48 : decode (mz_c M_bk_detail) 48 = .ok (.ireturn, 1) := by decide +kernel
theorem d_bk_detail_49 : decode (mz_c M_bk_detail) 49 = .ok (.aload_n 0, 1) := by decide +kernel
theorem d_bk_detail_50 : decode (mz_c M_bk_detail) 50 = .ok (.getfield 28, 3) := by decide +kernel
theorem d_bk_detail_53 : decode (mz_c M_bk_detail) 53 = .ok (.iload_n 1, 1) := by decide +kernel
theorem d_bk_detail_54 : decode (mz_c M_bk_detail) 54 = .ok (.iaload, 1) := by decide +kernel
theorem d_bk_detail_55 : decode (mz_c M_bk_detail) 55 = .ok (.ireturn, 1) := by decide +kernel
theorem d_bk_isBlock_0 : decode (mz_c M_bk_isBlock) 0 = .ok (.aload_n 0, 1) := by decide +kernel
theorem d_bk_isBlock_1 : decode (mz_c M_bk_isBlock) 1 = .ok (.getfield 19, 3) := by decide +kernel
theorem d_bk_isBlock_4 : decode (mz_c M_bk_isBlock) 4 = .ok (.iload_n 1, 1) := by decide +kernel
theorem d_bk_isBlock_5 : decode (mz_c M_bk_isBlock) 5 = .ok (.iaload, 1) := by decide +kernel
theorem d_bk_isBlock_6 : decode (mz_c M_bk_isBlock) 6 = .ok (.bipush 100, 2) := by decide +kernel
theorem d_bk_isBlock_8 : decode (mz_c M_bk_isBlock) 8 = .ok (.if_icmp .lt 7, 3) := by decide +kernel
theorem d_bk_isBlock_11 : decode (mz_c M_bk_isBlock) 11 = .ok (.iconst 1, 1) := by decide +kernel
theorem d_bk_isBlock_12 : decode (mz_c M_bk_isBlock) 12 = .ok (.goto 4, 3) := by decide +kernel
theorem d_bk_isBlock_15 : decode (mz_c M_bk_isBlock) 15 = .ok (.iconst 0, 1) := by decide +kernel
theorem d_bk_isBlock_16 : decode (mz_c M_bk_isBlock) 16 = .ok (.ireturn, 1) := by decide +kernel
theorem d_bk_covers_0 : decode (mz_c M_bk_covers) 0 = .ok (.aload_n 0, 1) := by decide +kernel
theorem d_bk_covers_1 : decode (mz_c M_bk_covers) 1 = .ok (.getfield 19, 3) := by decide +kernel
theorem d_bk_covers_4 : decode (mz_c M_bk_covers) 4 = .ok (.iload_n 1, 1) := by decide +kernel
theorem d_bk_covers_5 : decode (mz_c M_bk_covers) 5 = .ok (.iaload, 1) := by decide +kernel
theorem d_bk_covers_6 : decode (mz_c M_bk_covers) 6 = .ok (.invokestatic 43, 3) := by decide +kernel
theorem d_bk_covers_9 : decode (mz_c M_bk_covers) 9 = .ok (.iload_n 2, 1) := by decide +kernel
theorem d_bk_covers_10 : decode (mz_c M_bk_covers) 10 = .ok (.if_icmp .gt 20, 3) := by decide +kernel
theorem d_bk_covers_13 : decode (mz_c M_bk_covers) 13 = .ok (.iload_n 2, 1) := by decide +kernel
theorem d_bk_covers_14 : decode (mz_c M_bk_covers) 14 = .ok (.aload_n 0, 1) := by decide +kernel
theorem d_bk_covers_15 : decode (mz_c M_bk_covers) 15 = .ok (.getfield 19, 3) := by decide +kernel
theorem d_bk_covers_18 : decode (mz_c M_bk_covers) 18 = .ok (.iload_n 1, 1) := by decide +kernel
theorem d_bk_covers_19 : decode (mz_c M_bk_covers) 19 = .ok (.iaload, 1) := by decide +kernel
theorem d_bk_covers_20 : decode (mz_c M_bk_covers) 20 = .ok (.invokestatic 46, 3) := by decide +kernel
theorem d_bk_covers_23 : decode (mz_c M_bk_covers) 23 = .ok (.if_icmp .gt 7, 3) := by decide +kernel
theorem d_bk_covers_26 : decode (mz_c M_bk_covers) 26 = .ok (.iconst 1, 1) := by decide +kernel
theorem d_bk_covers_27 : decode (mz_c M_bk_covers) 27 = .ok (.goto 4, 3) := by decide +kernel
theorem d_bk_covers_30 : decode (mz_c M_bk_covers) 30 = .ok (.iconst 0, 1) := by decide +kernel
theorem d_bk_covers_31 : decode (mz_c M_bk_covers) 31 = .ok (.ireturn, 1) := by decide +kernel
theorem d_bk_length_0 : decode (mz_c M_bk_length) 0 = .ok (.aload_n 0, 1) := by decide +kernel
theorem d_bk_length_1 : decode (mz_c M_bk_length) 1 = .ok (.getfield 19, 3) := by decide +kernel
theorem d_bk_length_4 : decode (mz_c M_bk_length) 4 = .ok (.iload_n 1, 1) := by decide +kernel
theorem d_bk_length_5 : decode (mz_c M_bk_length) 5 = .ok (.iaload, 1) := by decide +kernel
theorem d_bk_length_6 : decode (mz_c M_bk_length) 6 = .ok (.invokestatic 35, 3) := by decide +kernel
theorem d_bk_length_9 : decode (mz_c M_bk_length) 9 = .ok (.ireturn, 1) := by decide +kernel
theorem d_bk_worthOf_0 : decode (mz_c M_bk_worthOf) 0 = .ok (.aload_n 0, 1) := by decide +kernel
theorem d_bk_worthOf_1 : decode (mz_c M_bk_worthOf) 1 = .ok (.getfield 25, 3) := by decide +kernel
theorem d_bk_worthOf_4 : decode (mz_c M_bk_worthOf) 4 = .ok (.iload_n 1, 1) := by decide +kernel
theorem d_bk_worthOf_5 : decode (mz_c M_bk_worthOf) 5 = .ok (.iaload, 1) := by decide +kernel
theorem d_bk_worthOf_6 : decode (mz_c M_bk_worthOf) 6 = .ok (.i2l, 1) := by decide +kernel
theorem d_bk_worthOf_7 : decode (mz_c M_bk_worthOf) 7 = .ok (.aload_n 0, 1) := by decide +kernel
theorem d_bk_worthOf_8 : decode (mz_c M_bk_worthOf) 8 = .ok (.getfield 28, 3) := by decide +kernel
theorem d_bk_worthOf_11 : decode (mz_c M_bk_worthOf) 11 = .ok (.iload_n 1, 1) := by decide +kernel
theorem d_bk_worthOf_12 : decode (mz_c M_bk_worthOf) 12 = .ok (.iaload, 1) := by decide +kernel
theorem d_bk_worthOf_13 : decode (mz_c M_bk_worthOf) 13 = .ok (.i2l, 1) := by decide +kernel
theorem d_bk_worthOf_14 : decode (mz_c M_bk_worthOf) 14 = .ok (.lmul, 1) := by decide +kernel
theorem d_bk_worthOf_15 : decode (mz_c M_bk_worthOf) 15 = .ok (.aload_n 0, 1) := by decide +kernel
theorem d_bk_worthOf_16 : decode (mz_c M_bk_worthOf) 16 = .ok (.iload_n 1, 1) := by decide +kernel
theorem d_bk_worthOf_17 : decode (mz_c M_bk_worthOf) 17 = .ok (.invokevirtual 49, 3) := by decide +kernel
theorem d_bk_worthOf_20 : decode (mz_c M_bk_worthOf) 20 = .ok (.i2l, 1) := by decide +kernel
theorem d_bk_worthOf_21 : decode (mz_c M_bk_worthOf) 21 = .ok (.lmul, 1) := by decide +kernel
theorem d_bk_worthOf_22 : decode (mz_c M_bk_worthOf) 22 = .ok (.lstore_n 2, 1) := by decide +kernel
theorem d_bk_worthOf_23 : decode (mz_c M_bk_worthOf) 23 = .ok (.aload_n 0, 1) := by decide +kernel
theorem d_bk_worthOf_24 : decode (mz_c M_bk_worthOf) 24 = .ok (.getfield 22, 3) := by decide +kernel
theorem d_bk_worthOf_27 : decode (mz_c M_bk_worthOf) 27 = .ok (.iload_n 1, 1) := by decide +kernel
theorem d_bk_worthOf_28 : decode (mz_c M_bk_worthOf) 28 = .ok (.iaload, 1) := by decide +kernel
theorem d_bk_worthOf_29 : decode (mz_c M_bk_worthOf) 29 = .ok (.ifCond .ne 7, 3) := by decide +kernel
theorem d_bk_worthOf_32 : decode (mz_c M_bk_worthOf) 32 = .ok (.lload_n 2, 1) := by decide +kernel
theorem d_bk_worthOf_33 : decode (mz_c M_bk_worthOf) 33 = .ok (.goto 5, 3) := by decide +kernel
theorem d_bk_worthOf_36 : decode (mz_c M_bk_worthOf) 36 = .ok (.lload_n 2, 1) := by decide +kernel
theorem d_bk_worthOf_37 : decode (mz_c M_bk_worthOf) 37 = .ok (.lneg, 1) := by decide +kernel
theorem d_bk_worthOf_38 : decode (mz_c M_bk_worthOf) 38 = .ok (.lreturn, 1) := by decide +kernel
theorem d_bk_areEntriesEqual_0 : decode (mz_c M_bk_areEntriesEqual) 0 = .ok (.aload_n 0, 1) := by decide +kernel
theorem d_bk_areEntriesEqual_1 : decode (mz_c M_bk_areEntriesEqual) 1 = .ok (.getfield 19, 3) := by decide +kernel
theorem d_bk_areEntriesEqual_4 : decode (mz_c M_bk_areEntriesEqual) 4 = .ok (.iload_n 1, 1) := by decide +kernel
theorem d_bk_areEntriesEqual_5 : decode (mz_c M_bk_areEntriesEqual) 5 = .ok (.iaload, 1) := by decide +kernel
theorem d_bk_areEntriesEqual_6 : decode (mz_c M_bk_areEntriesEqual) 6 = .ok (.aload_n 0, 1) := by decide +kernel
theorem d_bk_areEntriesEqual_7 : decode (mz_c M_bk_areEntriesEqual) 7 = .ok (.getfield 19, 3) := by decide +kernel
theorem d_bk_areEntriesEqual_10 : decode (mz_c M_bk_areEntriesEqual) 10 = .ok (.iload_n 2, 1) := by decide +kernel
theorem d_bk_areEntriesEqual_11 : decode (mz_c M_bk_areEntriesEqual) 11 = .ok (.iaload, 1) := by decide +kernel
theorem d_bk_areEntriesEqual_12 : decode (mz_c M_bk_areEntriesEqual) 12 = .ok (.if_icmp .ne 52, 3) := by decide +kernel
theorem d_bk_areEntriesEqual_15 : decode (mz_c M_bk_areEntriesEqual) 15 = .ok (.aload_n 0, 1) := by decide +kernel
theorem d_bk_areEntriesEqual_16 : decode (mz_c M_bk_areEntriesEqual) 16 = .ok (.getfield 22, 3) := by decide +kernel
theorem d_bk_areEntriesEqual_19 : decode (mz_c M_bk_areEntriesEqual) 19 = .ok (.iload_n 1, 1) := by decide +kernel
theorem d_bk_areEntriesEqual_20 : decode (mz_c M_bk_areEntriesEqual) 20 = .ok (.iaload, 1) := by decide +kernel
theorem d_bk_areEntriesEqual_21 : decode (mz_c M_bk_areEntriesEqual) 21 = .ok (.aload_n 0, 1) := by decide +kernel
theorem d_bk_areEntriesEqual_22 : decode (mz_c M_bk_areEntriesEqual) 22 = .ok (.getfield 22, 3) := by decide +kernel
theorem d_bk_areEntriesEqual_25 : decode (mz_c M_bk_areEntriesEqual) 25 = .ok (.iload_n 2, 1) := by decide +kernel
theorem d_bk_areEntriesEqual_26 : decode (mz_c M_bk_areEntriesEqual) 26 = .ok (.iaload, 1) := by decide +kernel
theorem d_bk_areEntriesEqual_27 : decode (mz_c M_bk_areEntriesEqual) 27 = .ok (.if_icmp .ne 37, 3) := by decide +kernel
theorem d_bk_areEntriesEqual_30 : decode (mz_c M_bk_areEntriesEqual) 30 = .ok (.aload_n 0, 1) := by decide +kernel
theorem d_bk_areEntriesEqual_31 : decode (mz_c M_bk_areEntriesEqual) 31 = .ok (.getfield 25, 3) := by decide +kernel
theorem d_bk_areEntriesEqual_34 : decode (mz_c M_bk_areEntriesEqual) 34 = .ok (.iload_n 1, 1) := by decide +kernel
theorem d_bk_areEntriesEqual_35 : decode (mz_c M_bk_areEntriesEqual) 35 = .ok (.iaload, 1) := by decide +kernel
theorem d_bk_areEntriesEqual_36 : decode (mz_c M_bk_areEntriesEqual) 36 = .ok (.aload_n 0, 1) := by decide +kernel
theorem d_bk_areEntriesEqual_37 : decode (mz_c M_bk_areEntriesEqual) 37 = .ok (.getfield 25, 3) := by decide +kernel
theorem d_bk_areEntriesEqual_40 : decode (mz_c M_bk_areEntriesEqual) 40 = .ok (.iload_n 2, 1) := by decide +kernel
theorem d_bk_areEntriesEqual_41 : decode (mz_c M_bk_areEntriesEqual) 41 = .ok (.iaload, 1) := by decide +kernel
theorem d_bk_areEntriesEqual_42 : decode (mz_c M_bk_areEntriesEqual) 42 = .ok (.if_icmp .ne 22, 3) := by decide +kernel
theorem d_bk_areEntriesEqual_45 : decode (mz_c M_bk_areEntriesEqual) 45 = .ok (.aload_n 0, 1) := by decide +kernel
theorem d_bk_areEntriesEqual_46 : decode (mz_c M_bk_areEntriesEqual) 46 = .ok (.getfield 28, 3) := by decide +kernel
theorem d_bk_areEntriesEqual_49 : decode (mz_c M_bk_areEntriesEqual) 49 = .ok (.iload_n 1, 1) := by decide +kernel
theorem d_bk_areEntriesEqual_50 : decode (mz_c M_bk_areEntriesEqual) 50 = .ok (.iaload, 1) := by decide +kernel
theorem d_bk_areEntriesEqual_51 : decode (mz_c M_bk_areEntriesEqual) 51 = .ok (.aload_n 0, 1) := by decide +kernel
theorem d_bk_areEntriesEqual_52 : decode (mz_c M_bk_areEntriesEqual) 52 = .ok (.getfield 28, 3) := by decide +kernel
theorem d_bk_areEntriesEqual_55 : decode (mz_c M_bk_areEntriesEqual) 55 = .ok (.iload_n 2, 1) := by decide +kernel
theorem d_bk_areEntriesEqual_56 : decode (mz_c M_bk_areEntriesEqual) 56 = .ok (.iaload, 1) := by decide +kernel
theorem d_bk_areEntriesEqual_57 : decode (mz_c M_bk_areEntriesEqual) 57 = .ok (.if_icmp .ne 7, 3) := by decide +kernel
theorem d_bk_areEntriesEqual_60 : decode (mz_c M_bk_areEntriesEqual) 60 = .ok (.iconst 1, 1) := by decide +kernel
theorem d_bk_areEntriesEqual_61 : decode (mz_c M_bk_areEntriesEqual) 61 = .ok (.goto 4, 3) := by decide +kernel
theorem d_bk_areEntriesEqual_64 : decode (mz_c M_bk_areEntriesEqual) 64 = .ok (.iconst 0, 1) := by decide +kernel
theorem d_bk_areEntriesEqual_65 : decode (mz_c M_bk_areEntriesEqual) 65 = .ok (.ireturn, 1) := by decide +kernel
theorem d_bk_costOfOne_0 : decode (mz_c M_bk_costOfOne) 0 = .ok (.iload_n 0, 1) := by decide +kernel
theorem d_bk_costOfOne_1 : decode (mz_c M_bk_costOfOne) 1 = .ok (.ifCond .ne 7, 3) := by decide +kernel
theorem d_bk_costOfOne_4 : decode (mz_c M_bk_costOfOne) 4 = .ok (.iload_n 1, 1) := by decide +kernel
theorem d_bk_costOfOne_5 : decode (mz_c M_bk_costOfOne) 5 = .ok (.goto 5, 3) := by decide +kernel
theorem d_bk_costOfOne_8 : decode (mz_c M_bk_costOfOne) 8 = .ok (.iload_n 1, 1) := by decide +kernel
theorem d_bk_costOfOne_9 : decode (mz_c M_bk_costOfOne) 9 = .ok (.ineg, 1) := by decide +kernel
theorem d_bk_costOfOne_10 : decode (mz_c M_bk_costOfOne) 10 = .ok (.istore_n 2, 1) := by decide +kernel
theorem d_bk_costOfOne_11 : decode (mz_c M_bk_costOfOne) 11 = .ok (.iload_n 2, 1) := by decide +kernel
theorem d_bk_costOfOne_12 : decode (mz_c M_bk_costOfOne) 12 = .ok (.ifCond .le 7, 3) := by decide +kernel
theorem d_bk_costOfOne_15 : decode (mz_c M_bk_costOfOne) 15 = .ok (.iload_n 2, 1) := by decide +kernel
theorem d_bk_costOfOne_16 : decode (mz_c M_bk_costOfOne) 16 = .ok (.goto 4, 3) := by decide +kernel
theorem d_bk_costOfOne_19 : decode (mz_c M_bk_costOfOne) 19 = .ok (.iconst 0, 1) := by decide +kernel
theorem d_bk_costOfOne_20 : decode (mz_c M_bk_costOfOne) 20 = .ok (.ireturn, 1) := by decide +kernel
theorem d_bk_lengthOf_0 : decode (mz_c M_bk_lengthOf) 0 = .ok (.iload_n 0, 1) := by decide +kernel
theorem d_bk_lengthOf_1 : decode (mz_c M_bk_lengthOf) 1 = .ok (.invokestatic 46, 3) := by decide +kernel
theorem d_bk_lengthOf_4 : decode (mz_c M_bk_lengthOf) 4 = .ok (.iload_n 0, 1) := by decide +kernel
theorem d_bk_lengthOf_5 : decode (mz_c M_bk_lengthOf) 5 = .ok (.invokestatic 43, 3) := by decide +kernel
theorem d_bk_lengthOf_8 : decode (mz_c M_bk_lengthOf) 8 = .ok (.isub, 1) := by decide +kernel
theorem d_bk_lengthOf_9 : decode (mz_c M_bk_lengthOf) 9 = .ok (.iconst 1, 1) := by decide +kernel
theorem d_bk_lengthOf_10 : decode (mz_c M_bk_lengthOf) 10 = .ok (.iadd, 1) := by decide +kernel
theorem d_bk_lengthOf_11 : decode (mz_c M_bk_lengthOf) 11 = .ok (.ireturn, 1) := by decide +kernel
theorem d_bk_firstHour_0 : decode (mz_c M_bk_firstHour) 0 = .ok (.iload_n 0, 1) := by decide +kernel
theorem d_bk_firstHour_1 : decode (mz_c M_bk_firstHour) 1 = .ok (.bipush 100, 2) := by decide +kernel
theorem d_bk_firstHour_3 : decode (mz_c M_bk_firstHour) 3 = .ok (.if_icmp .lt 12, 3) := by decide +kernel
theorem d_bk_firstHour_6 : decode (mz_c M_bk_firstHour) 6 = .ok (.iload_n 0, 1) := by decide +kernel
theorem d_bk_firstHour_7 : decode (mz_c M_bk_firstHour) 7 = .ok (.bipush 100, 2) := by decide +kernel
theorem d_bk_firstHour_9 : decode (mz_c M_bk_firstHour) 9 = .ok (.isub, 1) := by decide +kernel
theorem d_bk_firstHour_10 : decode (mz_c M_bk_firstHour) 10 = .ok (.iconst 4, 1) := by decide +kernel
theorem d_bk_firstHour_11 : decode (mz_c M_bk_firstHour) 11 = .ok (.idiv, 1) := by decide +kernel
theorem d_bk_firstHour_12 : decode (mz_c M_bk_firstHour) 12 = .ok (.goto 4, 3) := by decide +kernel
theorem d_bk_firstHour_15 : decode (mz_c M_bk_firstHour) 15 = .ok (.iload_n 0, 1) := by decide +kernel
theorem d_bk_firstHour_16 : decode (mz_c M_bk_firstHour) 16 = .ok (.ireturn, 1) := by decide +kernel
theorem d_bk_lastHour_0 : decode (mz_c M_bk_lastHour) 0 = .ok (.iload_n 0, 1) := by decide +kernel
theorem d_bk_lastHour_1 : decode (mz_c M_bk_lastHour) 1 = .ok (.bipush 100, 2) := by decide +kernel
theorem d_bk_lastHour_3 : decode (mz_c M_bk_lastHour) 3 = .ok (.if_icmp .lt 12, 3) := by decide +kernel
theorem d_bk_lastHour_6 : decode (mz_c M_bk_lastHour) 6 = .ok (.iload_n 0, 1) := by decide +kernel
theorem d_bk_lastHour_7 : decode (mz_c M_bk_lastHour) 7 = .ok (.bipush 100, 2) := by decide +kernel
theorem d_bk_lastHour_9 : decode (mz_c M_bk_lastHour) 9 = .ok (.isub, 1) := by decide +kernel
theorem d_bk_lastHour_10 : decode (mz_c M_bk_lastHour) 10 = .ok (.iconst 4, 1) := by decide +kernel
theorem d_bk_lastHour_11 : decode (mz_c M_bk_lastHour) 11 = .ok (.irem, 1) := by decide +kernel
theorem d_bk_lastHour_12 : decode (mz_c M_bk_lastHour) 12 = .ok (.goto 4, 3) := by decide +kernel
theorem d_bk_lastHour_15 : decode (mz_c M_bk_lastHour) 15 = .ok (.iload_n 0, 1) := by decide +kernel
theorem d_bk_lastHour_16 : decode (mz_c M_bk_lastHour) 16 = .ok (.ireturn, 1) := by decide +kernel
theorem d_c_init_0 : decode (mz_c M_c_init) 0 = .ok (.aload_n 0, 1) := by decide +kernel
theorem d_c_init_1 : decode (mz_c M_c_init) 1 = .ok (.invokespecial 3, 3) := by decide +kernel
theorem d_c_init_4 : decode (mz_c M_c_init) 4 = .ok (.aload_n 0, 1) := by decide +kernel
theorem d_c_init_5 : decode (mz_c M_c_init) 5 = .ok (.bipush 60, 2) := by decide +kernel
theorem d_c_init_7 : decode (mz_c M_c_init) 7 = .ok (.newarray .int, 2) := by decide +kernel
theorem d_c_init_9 : decode (mz_c M_c_init) 9 = .ok (.putfield 9, 3) := by decide +kernel
theorem d_c_init_12 : decode (mz_c M_c_init) 12 = .ok (.aload_n 0, 1) := by decide +kernel
theorem d_c_init_13 : decode (mz_c M_c_init) 13 = .ok (.bipush 60, 2) := by decide +kernel
theorem d_c_init_15 : decode (mz_c M_c_init) 15 = .ok (.newarray .int, 2) := by decide +kernel
theorem d_c_init_17 : decode (mz_c M_c_init) 17 = .ok (.putfield 15, 3) := by decide +kernel
theorem d_c_init_20 : decode (mz_c M_c_init) 20 = .ok (.aload_n 0, 1) := by decide +kernel
theorem d_c_init_21 : decode (mz_c M_c_init) 21 = .ok (.bipush 60, 2) := by decide +kernel
theorem d_c_init_23 : decode (mz_c M_c_init) 23 = .ok (.newarray .int, 2) := by decide +kernel
theorem d_c_init_25 : decode (mz_c M_c_init) 25 = .ok (.putfield 18, 3) := by decide +kernel
theorem d_c_init_28 : decode (mz_c M_c_init) 28 = .ok (.return_, 1) := by decide +kernel
theorem d_c_empty_0 : decode (mz_c M_c_empty) 0 = .ok (.aload_n 0, 1) := by decide +kernel
theorem d_c_empty_1 : decode (mz_c M_c_empty) 1 = .ok (.iconst 0, 1) := by decide +kernel
theorem d_c_empty_2 : decode (mz_c M_c_empty) 2 = .ok (.putfield 21, 3) := by decide +kernel
theorem d_c_empty_5 : decode (mz_c M_c_empty) 5 = .ok (.aload_n 0, 1) := by decide +kernel
theorem d_c_empty_6 : decode (mz_c M_c_empty) 6 = .ok (.iconst 0, 1) := by decide +kernel
theorem d_c_empty_7 : decode (mz_c M_c_empty) 7 = .ok (.putfield 25, 3) := by decide +kernel
theorem d_c_empty_10 : decode (mz_c M_c_empty) 10 = .ok (.aload_n 0, 1) := by decide +kernel
theorem d_c_empty_11 : decode (mz_c M_c_empty) 11 = .ok (.iconst 0, 1) := by decide +kernel
theorem d_c_empty_12 : decode (mz_c M_c_empty) 12 = .ok (.putfield 28, 3) := by decide +kernel
theorem d_c_empty_15 : decode (mz_c M_c_empty) 15 = .ok (.return_, 1) := by decide +kernel
theorem d_c_add_0 : decode (mz_c M_c_add) 0 = .ok (.aload_n 0, 1) := by decide +kernel
theorem d_c_add_1 : decode (mz_c M_c_add) 1 = .ok (.iload_n 3, 1) := by decide +kernel
theorem d_c_add_2 : decode (mz_c M_c_add) 2 = .ok (.invokevirtual 31, 3) := by decide +kernel
theorem d_c_add_5 : decode (mz_c M_c_add) 5 = .ok (.istore 4, 2) := by decide +kernel
theorem d_c_add_7 : decode (mz_c M_c_add) 7 = .ok (.iload 4, 2) := by decide +kernel
theorem d_c_add_9 : decode (mz_c M_c_add) 9 = .ok (.aload_n 0, 1) := by decide +kernel
theorem d_c_add_10 : decode (mz_c M_c_add) 10 = .ok (.getfield 9, 3) := by decide +kernel
theorem d_c_add_13 : decode (mz_c M_c_add) 13 = .ok (.arraylength, 1) := by decide +kernel
theorem d_c_add_14 : decode (mz_c M_c_add) 14 = .ok (.if_icmp .lt 4, 3) := by decide +kernel
theorem d_c_add_17 : decode (mz_c M_c_add) 17 = .ok (.return_, 1) := by decide +kernel
theorem d_c_add_18 : decode (mz_c M_c_add) 18 = .ok (.iload_n 1, 1) := by decide +kernel
theorem d_c_add_19 : decode (mz_c M_c_add) 19 = .ok (.ifCond .ne 27, 3) := by decide +kernel
theorem d_c_add_22 : decode (mz_c M_c_add) 22 = .ok (.aload_n 0, 1) := by decide +kernel
theorem d_c_add_23 : decode (mz_c M_c_add) 23 = .ok (.getfield 15, 3) := by decide +kernel
theorem d_c_add_26 : decode (mz_c M_c_add) 26 = .ok (.iload 4, 2) := by decide +kernel
theorem d_c_add_28 : decode (mz_c M_c_add) 28 = .ok (.dup2, 1) := by decide +kernel
theorem d_c_add_29 : decode (mz_c M_c_add) 29 = .ok (.iaload, 1) := by decide +kernel
theorem d_c_add_30 : decode (mz_c M_c_add) 30 = .ok (.iload_n 2, 1) := by decide +kernel
theorem d_c_add_31 : decode (mz_c M_c_add) 31 = .ok (.iadd, 1) := by decide +kernel
theorem d_c_add_32 : decode (mz_c M_c_add) 32 = .ok (.iastore, 1) := by decide +kernel
theorem d_c_add_33 : decode (mz_c M_c_add) 33 = .ok (.aload_n 0, 1) := by decide +kernel
theorem d_c_add_34 : decode (mz_c M_c_add) 34 = .ok (.dup, 1) := by decide +kernel
theorem d_c_add_35 : decode (mz_c M_c_add) 35 = .ok (.getfield 25, 3) := by decide +kernel
theorem d_c_add_38 : decode (mz_c M_c_add) 38 = .ok (.iload_n 2, 1) := by decide +kernel
theorem d_c_add_39 : decode (mz_c M_c_add) 39 = .ok (.iadd, 1) := by decide +kernel
theorem d_c_add_40 : decode (mz_c M_c_add) 40 = .ok (.putfield 25, 3) := by decide +kernel
theorem d_c_add_43 : decode (mz_c M_c_add) 43 = .ok (.goto 24, 3) := by decide +kernel
theorem d_c_add_46 : decode (mz_c M_c_add) 46 = .ok (.aload_n 0, 1) := by decide +kernel
theorem d_c_add_47 : decode (mz_c M_c_add) 47 = .ok (.getfield 18, 3) := by decide +kernel
theorem d_c_add_50 : decode (mz_c M_c_add) 50 = .ok (.iload 4, 2) := by decide +kernel
theorem d_c_add_52 : decode (mz_c M_c_add) 52 = .ok (.dup2, 1) := by decide +kernel
theorem d_c_add_53 : decode (mz_c M_c_add) 53 = .ok (.iaload, 1) := by decide +kernel
theorem d_c_add_54 : decode (mz_c M_c_add) 54 = .ok (.iload_n 2, 1) := by decide +kernel
theorem d_c_add_55 : decode (mz_c M_c_add) 55 = .ok (.iadd, 1) := by decide +kernel
theorem d_c_add_56 : decode (mz_c M_c_add) 56 = .ok (.iastore, 1) := by decide +kernel
theorem d_c_add_57 : decode (mz_c M_c_add) 57 = .ok (.aload_n 0, 1) := by decide +kernel
theorem d_c_add_58 : decode (mz_c M_c_add) 58 = .ok (.dup, 1) := by decide +kernel
theorem d_c_add_59 : decode (mz_c M_c_add) 59 = .ok (.getfield 28, 3) := by decide +kernel
theorem d_c_add_62 : decode (mz_c M_c_add) 62 = .ok (.iload_n 2, 1) := by decide +kernel
theorem d_c_add_63 : decode (mz_c M_c_add) 63 = .ok (.iadd, 1) := by decide +kernel
theorem d_c_add_64 : decode (mz_c M_c_add) 64 = .ok (.putfield 28, 3) := by decide +kernel
theorem d_c_add_67 : decode (mz_c M_c_add) 67 = .ok (.return_, 1) := by decide +kernel
theorem d_c_placeOf_0 : decode (mz_c M_c_placeOf) 0 = .ok (.iconst 0, 1) := by decide +kernel
theorem d_c_placeOf_1 : decode (mz_c M_c_placeOf) 1 = .ok (.istore_n 2, 1) := by decide +kernel
theorem d_c_placeOf_2 : decode (mz_c M_c_placeOf) 2 = .ok (.iload_n 2, 1) := by decide +kernel
theorem d_c_placeOf_3 : decode (mz_c M_c_placeOf) 3 = .ok (.aload_n 0, 1) := by decide +kernel
theorem d_c_placeOf_4 : decode (mz_c M_c_placeOf) 4 = .ok (.getfield 21, 3) := by decide +kernel
theorem d_c_placeOf_7 : decode (mz_c M_c_placeOf) 7 = .ok (.if_icmp .ge 19, 3) := by decide +kernel
theorem d_c_placeOf_10 : decode (mz_c M_c_placeOf) 10 = .ok (.aload_n 0, 1) := by decide +kernel
theorem d_c_placeOf_11 : decode (mz_c M_c_placeOf) 11 = .ok (.getfield 9, 3) := by decide +kernel
theorem d_c_placeOf_14 : decode (mz_c M_c_placeOf) 14 = .ok (.iload_n 2, 1) := by decide +kernel
theorem d_c_placeOf_15 : decode (mz_c M_c_placeOf) 15 = .ok (.iaload, 1) := by decide +kernel
theorem d_c_placeOf_16 : decode (mz_c M_c_placeOf) 16 = .ok (.iload_n 1, 1) := by decide +kernel
theorem d_c_placeOf_17 : decode (mz_c M_c_placeOf) 17 = .ok (.if_icmp .ge 9, 3) := by decide +kernel
theorem d_c_placeOf_20 : decode (mz_c M_c_placeOf) 20 = .ok (.iinc 2 1, 3) := by decide +kernel
theorem d_c_placeOf_23 : decode (mz_c M_c_placeOf) 23 = .ok (.goto (-21), 3) := by decide +kernel
theorem d_c_placeOf_26 : decode (mz_c M_c_placeOf) 26 = .ok (.iload_n 2, 1) := by decide +kernel
theorem d_c_placeOf_27 : decode (mz_c M_c_placeOf) 27 = .ok (.aload_n 0, 1) := by decide +kernel
theorem d_c_placeOf_28 : decode (mz_c M_c_placeOf) 28 = .ok (.getfield 21, 3) := by decide +kernel
theorem d_c_placeOf_31 : decode (mz_c M_c_placeOf) 31 = .ok (.if_icmp .ge 13, 3) := by decide +kernel
theorem d_c_placeOf_34 : decode (mz_c M_c_placeOf) 34 = .ok (.aload_n 0, 1) := by decide +kernel
theorem d_c_placeOf_35 : decode (mz_c M_c_placeOf) 35 = .ok (.getfield 9, 3) := by decide +kernel
theorem d_c_placeOf_38 : decode (mz_c M_c_placeOf) 38 = .ok (.iload_n 2, 1) := by decide +kernel
theorem d_c_placeOf_39 : decode (mz_c M_c_placeOf) 39 = .ok (.iaload, 1) := by decide +kernel
theorem d_c_placeOf_40 : decode (mz_c M_c_placeOf) 40 = .ok (.iload_n 1, 1) := by decide +kernel
theorem d_c_placeOf_41 : decode (mz_c M_c_placeOf) 41 = .ok (.if_icmp .eq 15, 3) := by decide +kernel
theorem d_c_placeOf_44 : decode (mz_c M_c_placeOf) 44 = .ok (.aload_n 0, 1) := by decide +kernel
theorem d_c_placeOf_45 : decode (mz_c M_c_placeOf) 45 = .ok (.getfield 21, 3) := by decide +kernel
theorem d_c_placeOf_48 : decode (mz_c M_c_placeOf) 48 = .ok (.aload_n 0, 1) := by decide +kernel
theorem d_c_placeOf_49 : decode (mz_c M_c_placeOf) 49 = .ok (.getfield 9, 3) := by decide +kernel
theorem d_c_placeOf_52 : decode (mz_c M_c_placeOf) 52 = .ok (.arraylength, 1) := by decide +kernel
theorem d_c_placeOf_53 : decode (mz_c M_c_placeOf) 53 = .ok (.if_icmp .lt 5, 3) := by decide +kernel
theorem d_c_placeOf_56 : decode (mz_c M_c_placeOf) 56 = .ok (.iload_n 2, 1) := by decide +kernel
theorem d_c_placeOf_57 : decode (mz_c M_c_placeOf) 57 = .ok (.ireturn, 1) := by decide +kernel
theorem d_c_placeOf_58 : decode (mz_c M_c_placeOf) 58 = .ok (.aload_n 0, 1) := by decide +kernel
theorem d_c_placeOf_59 : decode (mz_c M_c_placeOf) 59 = .ok (.getfield 21, 3) := by decide +kernel
theorem d_c_placeOf_62 : decode (mz_c M_c_placeOf) 62 = .ok (.istore_n 3, 1) := by decide +kernel
theorem d_c_placeOf_63 : decode (mz_c M_c_placeOf) 63 = .ok (.iload_n 3, 1) := by decide +kernel
theorem d_c_placeOf_64 : decode (mz_c M_c_placeOf) 64 = .ok (.iload_n 2, 1) := by decide +kernel
theorem d_c_placeOf_65 : decode (mz_c M_c_placeOf) 65 = .ok (.if_icmp .le 51, 3) := by decide +kernel
theorem d_c_placeOf_68 : decode (mz_c M_c_placeOf) 68 = .ok (.aload_n 0, 1) := by decide +kernel
theorem d_c_placeOf_69 : decode (mz_c M_c_placeOf) 69 = .ok (.getfield 9, 3) := by decide +kernel
theorem d_c_placeOf_72 : decode (mz_c M_c_placeOf) 72 = .ok (.iload_n 3, 1) := by decide +kernel
theorem d_c_placeOf_73 : decode (mz_c M_c_placeOf) 73 = .ok (.aload_n 0, 1) := by decide +kernel
theorem d_c_placeOf_74 : decode (mz_c M_c_placeOf) 74 = .ok (.getfield 9, 3) := by decide +kernel
theorem d_c_placeOf_77 : decode (mz_c M_c_placeOf) 77 = .ok (.iload_n 3, 1) := by decide +kernel
theorem d_c_placeOf_78 : decode (mz_c M_c_placeOf) 78 = .ok (.iconst 1, 1) := by decide +kernel
theorem d_c_placeOf_79 : decode (mz_c M_c_placeOf) 79 = .ok (.isub, 1) := by decide +kernel
theorem d_c_placeOf_80 : decode (mz_c M_c_placeOf) 80 = .ok (.iaload, 1) := by decide +kernel
theorem d_c_placeOf_81 : decode (mz_c M_c_placeOf) 81 = .ok (.iastore, 1) := by decide +kernel
theorem d_c_placeOf_82 : decode (mz_c M_c_placeOf) 82 = .ok (.aload_n 0, 1) := by decide +kernel
theorem d_c_placeOf_83 : decode (mz_c M_c_placeOf) 83 = .ok (.getfield 15, 3) := by decide +kernel
theorem d_c_placeOf_86 : decode (mz_c M_c_placeOf) 86 = .ok (.iload_n 3, 1) := by decide +kernel
theorem d_c_placeOf_87 : decode (mz_c M_c_placeOf) 87 = .ok (.aload_n 0, 1) := by decide +kernel
theorem d_c_placeOf_88 : decode (mz_c M_c_placeOf) 88 = .ok (.getfield 15, 3) := by decide +kernel
theorem d_c_placeOf_91 : decode (mz_c M_c_placeOf) 91 = .ok (.iload_n 3, 1) := by decide +kernel
theorem d_c_placeOf_92 : decode (mz_c M_c_placeOf) 92 = .ok (.iconst 1, 1) := by decide +kernel
theorem d_c_placeOf_93 : decode (mz_c M_c_placeOf) 93 = .ok (.isub, 1) := by decide +kernel
theorem d_c_placeOf_94 : decode (mz_c M_c_placeOf) 94 = .ok (.iaload, 1) := by decide +kernel
theorem d_c_placeOf_95 : decode (mz_c M_c_placeOf) 95 = .ok (.iastore, 1) := by decide +kernel
theorem d_c_placeOf_96 : decode (mz_c M_c_placeOf) 96 = .ok (.aload_n 0, 1) := by decide +kernel
theorem d_c_placeOf_97 : decode (mz_c M_c_placeOf) 97 = .ok (.getfield 18, 3) := by decide +kernel
theorem d_c_placeOf_100 : decode (mz_c M_c_placeOf) 100 = .ok (.iload_n 3, 1) := by decide +kernel
theorem d_c_placeOf_101 : decode (mz_c M_c_placeOf) 101 = .ok (.aload_n 0, 1) := by decide +kernel
theorem d_c_placeOf_102 : decode (mz_c M_c_placeOf) 102 = .ok (.getfield 18, 3) := by decide +kernel
theorem d_c_placeOf_105 : decode (mz_c M_c_placeOf) 105 = .ok (.iload_n 3, 1) := by decide +kernel
theorem d_c_placeOf_106 : decode (mz_c M_c_placeOf) 106 = .ok (.iconst 1, 1) := by decide +kernel
theorem d_c_placeOf_107 : decode (mz_c M_c_placeOf) 107 = .ok (.isub, 1) := by decide +kernel
theorem d_c_placeOf_108 : decode (mz_c M_c_placeOf) 108 = .ok (.iaload, 1) := by decide +kernel
theorem d_c_placeOf_109 : decode (mz_c M_c_placeOf) 109 = .ok (.iastore, 1) := by decide +kernel
theorem d_c_placeOf_110 : decode (mz_c M_c_placeOf) 110 = .ok (.iinc 3 (-1), 3) := by decide +kernel
theorem d_c_placeOf_113 : decode (mz_c M_c_placeOf) 113 = .ok (.goto (-50), 3) := by decide +kernel
theorem d_c_placeOf_116 : decode (mz_c M_c_placeOf) 116 = .ok (.aload_n 0, 1) := by decide +kernel
theorem d_c_placeOf_117 : decode (mz_c M_c_placeOf) 117 = .ok (.getfield 9, 3) := by decide +kernel
theorem d_c_placeOf_120 : decode (mz_c M_c_placeOf) 120 = .ok (.iload_n 2, 1) := by decide +kernel
theorem d_c_placeOf_121 : decode (mz_c M_c_placeOf) 121 = .ok (.iload_n 1, 1) := by decide +kernel
theorem d_c_placeOf_122 : decode (mz_c M_c_placeOf) 122 = .ok (.iastore, 1) := by decide +kernel
theorem d_c_placeOf_123 : decode (mz_c M_c_placeOf) 123 = .ok (.aload_n 0, 1) := by decide +kernel
theorem d_c_placeOf_124 : decode (mz_c M_c_placeOf) 124 = .ok (.getfield 15, 3) := by decide +kernel
theorem d_c_placeOf_127 : decode (mz_c M_c_placeOf) 127 = .ok (.iload_n 2, 1) := by decide +kernel
theorem d_c_placeOf_128 : decode (mz_c M_c_placeOf) 128 = .ok (.iconst 0, 1) := by decide +kernel
theorem d_c_placeOf_129 : decode (mz_c M_c_placeOf) 129 = .ok (.iastore, 1) := by decide +kernel
theorem d_c_placeOf_130 : decode (mz_c M_c_placeOf) 130 = .ok (.aload_n 0, 1) := by decide +kernel
theorem d_c_placeOf_131 : decode (mz_c M_c_placeOf) 131 = .ok (.getfield 18, 3) := by decide +kernel
theorem d_c_placeOf_134 : decode (mz_c M_c_placeOf) 134 = .ok (.iload_n 2, 1) := by decide +kernel
theorem d_c_placeOf_135 : decode (mz_c M_c_placeOf) 135 = .ok (.iconst 0, 1) := by decide +kernel
theorem d_c_placeOf_136 : decode (mz_c M_c_placeOf) 136 = .ok (.iastore, 1) := by decide +kernel
theorem d_c_placeOf_137 : decode (mz_c M_c_placeOf) 137 = .ok (.aload_n 0, 1) := by decide +kernel
theorem d_c_placeOf_138 : decode (mz_c M_c_placeOf) 138 = .ok (.dup, 1) := by decide +kernel
theorem d_c_placeOf_139 : decode (mz_c M_c_placeOf) 139 = .ok (.getfield 21, 3) := by decide +kernel
theorem d_c_placeOf_142 : decode (mz_c M_c_placeOf) 142 = .ok (.iconst 1, 1) := by decide +kernel
theorem d_c_placeOf_143 : decode (mz_c M_c_placeOf) 143 = .ok (.iadd, 1) := by decide +kernel
theorem d_c_placeOf_144 : decode (mz_c M_c_placeOf) 144 = .ok (.putfield 21, 3) := by decide +kernel
theorem d_c_placeOf_147 : decode (mz_c M_c_placeOf) 147 = .ok (.iload_n 2, 1) := by decide +kernel
theorem d_c_placeOf_148 : decode (mz_c M_c_placeOf) 148 = .ok (.ireturn, 1) := by decide +kernel
theorem d_c_meet_0 : decode (mz_c M_c_meet) 0 = .ok (.aload_n 0, 1) := by decide +kernel
theorem d_c_meet_1 : decode (mz_c M_c_meet) 1 = .ok (.iload_n 1, 1) := by decide +kernel
theorem d_c_meet_2 : decode (mz_c M_c_meet) 2 = .ok (.invokevirtual 35, 3) := by decide +kernel
theorem d_c_meet_5 : decode (mz_c M_c_meet) 5 = .ok (.istore_n 2, 1) := by decide +kernel
theorem d_c_meet_6 : decode (mz_c M_c_meet) 6 = .ok (.aload_n 0, 1) := by decide +kernel
theorem d_c_meet_7 : decode (mz_c M_c_meet) 7 = .ok (.iload_n 1, 1) := by decide +kernel
theorem d_c_meet_8 : decode (mz_c M_c_meet) 8 = .ok (.invokevirtual 38, 3) := by decide +kernel
theorem d_c_meet_11 : decode (mz_c M_c_meet) 11 = .ok (.istore_n 3, 1) := by decide +kernel
theorem d_c_meet_12 : decode (mz_c M_c_meet) 12 = .ok (.iload_n 2, 1) := by decide +kernel
theorem d_c_meet_13 : decode (mz_c M_c_meet) 13 = .ok (.iload_n 3, 1) := by decide +kernel
theorem d_c_meet_14 : decode (mz_c M_c_meet) 14 = .ok (.if_icmp .le 5, 3) := by decide +kernel
theorem d_c_meet_17 : decode (mz_c M_c_meet) 17 = .ok (.iconst 0, 1) := by decide +kernel
theorem d_c_meet_18 : decode (mz_c M_c_meet) 18 = .ok (.ireturn, 1) := by decide +kernel
theorem d_c_meet_19 : decode (mz_c M_c_meet) 19 = .ok (.aload_n 0, 1) := by decide +kernel
theorem d_c_meet_20 : decode (mz_c M_c_meet) 20 = .ok (.iload_n 2, 1) := by decide +kernel
theorem d_c_meet_21 : decode (mz_c M_c_meet) 21 = .ok (.iload_n 3, 1) := by decide +kernel
theorem d_c_meet_22 : decode (mz_c M_c_meet) 22 = .ok (.iadd, 1) := by decide +kernel
theorem d_c_meet_23 : decode (mz_c M_c_meet) 23 = .ok (.iconst 2, 1) := by decide +kernel
theorem d_c_meet_24 : decode (mz_c M_c_meet) 24 = .ok (.invokestatic 41, 3) := by decide +kernel
theorem d_c_meet_27 : decode (mz_c M_c_meet) 27 = .ok (.putfield 47, 3) := by decide +kernel
theorem d_c_meet_30 : decode (mz_c M_c_meet) 30 = .ok (.iconst 1, 1) := by decide +kernel
theorem d_c_meet_31 : decode (mz_c M_c_meet) 31 = .ok (.ireturn, 1) := by decide +kernel
theorem d_c_leastServing_0 : decode (mz_c M_c_leastServing) 0 = .ok (.iload_n 1, 1) := by decide +kernel
theorem d_c_leastServing_1 : decode (mz_c M_c_leastServing) 1 = .ok (.aload_n 0, 1) := by decide +kernel
theorem d_c_leastServing_2 : decode (mz_c M_c_leastServing) 2 = .ok (.getfield 25, 3) := by decide +kernel
theorem d_c_leastServing_5 : decode (mz_c M_c_leastServing) 5 = .ok (.iadd, 1) := by decide +kernel
theorem d_c_leastServing_6 : decode (mz_c M_c_leastServing) 6 = .ok (.istore_n 2, 1) := by decide +kernel
theorem d_c_leastServing_7 : decode (mz_c M_c_leastServing) 7 = .ok (.iload_n 2, 1) := by decide +kernel
theorem d_c_leastServing_8 : decode (mz_c M_c_leastServing) 8 = .ok (.ifCond .gt 7, 3) := by decide +kernel
theorem d_c_leastServing_11 : decode (mz_c M_c_leastServing) 11 = .ok (.sipush (-5000), 3) := by decide +kernel
theorem d_c_leastServing_14 : decode (mz_c M_c_leastServing) 14 = .ok (.ireturn, 1) := by decide +kernel
theorem d_c_leastServing_15 : decode (mz_c M_c_leastServing) 15 = .ok (.iconst 0, 1) := by decide +kernel
theorem d_c_leastServing_16 : decode (mz_c M_c_leastServing) 16 = .ok (.istore_n 3, 1) := by decide +kernel
theorem d_c_leastServing_17 : decode (mz_c M_c_leastServing) 17 = .ok (.iload_n 3, 1) := by decide +kernel
theorem d_c_leastServing_18 : decode (mz_c M_c_leastServing) 18 = .ok (.aload_n 0, 1) := by decide +kernel
theorem d_c_leastServing_19 : decode (mz_c M_c_leastServing) 19 = .ok (.getfield 21, 3) := by decide +kernel
theorem d_c_leastServing_22 : decode (mz_c M_c_leastServing) 22 = .ok (.if_icmp .ge 36, 3) := by decide +kernel
theorem d_c_leastServing_25 : decode (mz_c M_c_leastServing) 25 = .ok (.iload_n 2, 1) := by decide +kernel
theorem d_c_leastServing_26 : decode (mz_c M_c_leastServing) 26 = .ok (.aload_n 0, 1) := by decide +kernel
theorem d_c_leastServing_27 : decode (mz_c M_c_leastServing) 27 = .ok (.getfield 15, 3) := by decide +kernel
theorem d_c_leastServing_30 : decode (mz_c M_c_leastServing) 30 = .ok (.iload_n 3, 1) := by decide +kernel
theorem d_c_leastServing_31 : decode (mz_c M_c_leastServing) 31 = .ok (.iaload, 1) := by decide +kernel
theorem d_c_leastServing_32 : decode (mz_c M_c_leastServing) 32 = .ok (.aload_n 0, 1) := by decide +kernel
theorem d_c_leastServing_33 : decode (mz_c M_c_leastServing) 33 = .ok (.getfield 18, 3) := by decide +kernel
theorem d_c_leastServing_36 : decode (mz_c M_c_leastServing) 36 = .ok (.iload_n 3, 1) := by decide +kernel
theorem d_c_leastServing_37 : decode (mz_c M_c_leastServing) 37 = .ok (.iaload, 1) := by decide +kernel
theorem d_c_leastServing_38 : decode (mz_c M_c_leastServing) 38 = .ok (.iadd, 1) := by decide +kernel
theorem d_c_leastServing_39 : decode (mz_c M_c_leastServing) 39 = .ok (.isub, 1) := by decide +kernel
theorem d_c_leastServing_40 : decode (mz_c M_c_leastServing) 40 = .ok (.istore_n 2, 1) := by decide +kernel
theorem d_c_leastServing_41 : decode (mz_c M_c_leastServing) 41 = .ok (.iload_n 2, 1) := by decide +kernel
theorem d_c_leastServing_42 : decode (mz_c M_c_leastServing) 42 = .ok (.ifCond .gt 10, 3) := by decide +kernel
theorem d_c_leastServing_45 : decode (mz_c M_c_leastServing) 45 = .ok (.aload_n 0, 1) := by decide +kernel
theorem d_c_leastServing_46 : decode (mz_c M_c_leastServing) 46 = .ok (.getfield 9, 3) := by decide +kernel
theorem d_c_leastServing_49 : decode (mz_c M_c_leastServing) 49 = .ok (.iload_n 3, 1) := by decide +kernel
theorem d_c_leastServing_50 : decode (mz_c M_c_leastServing) 50 = .ok (.iaload, 1) := by decide +kernel
theorem d_c_leastServing_51 : decode (mz_c M_c_leastServing) 51 = .ok (.ireturn, 1) := by decide +kernel
theorem d_c_leastServing_52 : decode (mz_c M_c_leastServing) 52 = .ok (.iinc 3 1, 3) := by decide +kernel
theorem d_c_leastServing_55 : decode (mz_c M_c_leastServing) 55 = .ok (.goto (-38), 3) := by decide +kernel
theorem d_c_leastServing_58 : decode (mz_c M_c_leastServing) 58 = .ok (.ldc 50, 2) := by decide +kernel
theorem d_c_leastServing_60 : decode (mz_c M_c_leastServing) 60 = .ok (.ireturn, 1) := by decide +kernel
theorem d_c_greatestServing_0 : decode (mz_c M_c_greatestServing) 0 = .ok (.iload_n 1, 1) := by decide +kernel
theorem d_c_greatestServing_1 : decode (mz_c M_c_greatestServing) 1 = .ok (.aload_n 0, 1) := by decide +kernel
theorem d_c_greatestServing_2 : decode (mz_c M_c_greatestServing) 2 = .ok (.getfield 28, 3) := by decide +kernel
theorem d_c_greatestServing_5 : decode (mz_c M_c_greatestServing) 5 = .ok (.isub, 1) := by decide +kernel
theorem d_c_greatestServing_6 : decode (mz_c M_c_greatestServing) 6 = .ok (.istore_n 2, 1) := by decide +kernel
theorem d_c_greatestServing_7 : decode (mz_c M_c_greatestServing) 7 = .ok (.iload_n 2, 1) := by decide +kernel
theorem d_c_greatestServing_8 : decode (mz_c M_c_greatestServing) 8 = .ok (.ifCond .lt 6, 3) := by decide +kernel
theorem d_c_greatestServing_11 : decode (mz_c M_c_greatestServing) 11 = .ok (.ldc 51, 2) := by decide +kernel
theorem d_c_greatestServing_13 : decode (mz_c M_c_greatestServing) 13 = .ok (.ireturn, 1) := by decide +kernel
theorem d_c_greatestServing_14 : decode (mz_c M_c_greatestServing) 14 = .ok (.aload_n 0, 1) := by decide +kernel
theorem d_c_greatestServing_15 : decode (mz_c M_c_greatestServing) 15 = .ok (.getfield 21, 3) := by decide +kernel
theorem d_c_greatestServing_18 : decode (mz_c M_c_greatestServing) 18 = .ok (.iconst 1, 1) := by decide +kernel
theorem d_c_greatestServing_19 : decode (mz_c M_c_greatestServing) 19 = .ok (.isub, 1) := by decide +kernel
theorem d_c_greatestServing_20 : decode (mz_c M_c_greatestServing) 20 = .ok (.istore_n 3, 1) := by decide +kernel
theorem d_c_greatestServing_21 : decode (mz_c M_c_greatestServing) 21 = .ok (.iload_n 3, 1) := by decide +kernel
theorem d_c_greatestServing_22 : decode (mz_c M_c_greatestServing) 22 = .ok (.ifCond .lt 36, 3) := by decide +kernel
theorem d_c_greatestServing_25 : decode (mz_c M_c_greatestServing) 25 = .ok (.iload_n 2, 1) := by decide +kernel
theorem d_c_greatestServing_26 : decode (mz_c M_c_greatestServing) 26 = .ok (.aload_n 0, 1) := by decide +kernel
theorem d_c_greatestServing_27 : decode (mz_c M_c_greatestServing) 27 = .ok (.getfield 15, 3) := by decide +kernel
theorem d_c_greatestServing_30 : decode (mz_c M_c_greatestServing) 30 = .ok (.iload_n 3, 1) := by decide +kernel
theorem d_c_greatestServing_31 : decode (mz_c M_c_greatestServing) 31 = .ok (.iaload, 1) := by decide +kernel
theorem d_c_greatestServing_32 : decode (mz_c M_c_greatestServing) 32 = .ok (.aload_n 0, 1) := by decide +kernel
theorem d_c_greatestServing_33 : decode (mz_c M_c_greatestServing) 33 = .ok (.getfield 18, 3) := by decide +kernel
theorem d_c_greatestServing_36 : decode (mz_c M_c_greatestServing) 36 = .ok (.iload_n 3, 1) := by decide +kernel
theorem d_c_greatestServing_37 : decode (mz_c M_c_greatestServing) 37 = .ok (.iaload, 1) := by decide +kernel
theorem d_c_greatestServing_38 : decode (mz_c M_c_greatestServing) 38 = .ok (.iadd, 1) := by decide +kernel
theorem d_c_greatestServing_39 : decode (mz_c M_c_greatestServing) 39 = .ok (.iadd, 1) := by decide +kernel
theorem d_c_greatestServing_40 : decode (mz_c M_c_greatestServing) 40 = .ok (.istore_n 2, 1) := by decide +kernel
theorem d_c_greatestServing_41 : decode (mz_c M_c_greatestServing) 41 = .ok (.iload_n 2, 1) := by decide +kernel
theorem d_c_greatestServing_42 : decode (mz_c M_c_greatestServing) 42 = .ok (.ifCond .lt 10, 3) := by decide +kernel
theorem d_c_greatestServing_45 : decode (mz_c M_c_greatestServing) 45 = .ok (.aload_n 0, 1) := by decide +kernel
theorem d_c_greatestServing_46 : decode (mz_c M_c_greatestServing) 46 = .ok (.getfield 9, 3) := by decide +kernel
theorem d_c_greatestServing_49 : decode (mz_c M_c_greatestServing) 49 = .ok (.iload_n 3, 1) := by decide +kernel
theorem d_c_greatestServing_50 : decode (mz_c M_c_greatestServing) 50 = .ok (.iaload, 1) := by decide +kernel
theorem d_c_greatestServing_51 : decode (mz_c M_c_greatestServing) 51 = .ok (.ireturn, 1) := by decide +kernel
theorem d_c_greatestServing_52 : decode (mz_c M_c_greatestServing) 52 = .ok (.iinc 3 (-1), 3) := by decide +kernel
theorem d_c_greatestServing_55 : decode (mz_c M_c_greatestServing) 55 = .ok (.goto (-34), 3) := by decide +kernel
theorem d_c_greatestServing_58 : decode (mz_c M_c_greatestServing) 58 = .ok (.sipush (-5001), 3) := by decide +kernel
theorem d_c_greatestServing_61 : decode (mz_c M_c_greatestServing) 61 = .ok (.ireturn, 1) := by decide +kernel
theorem d_c_measure_0 : decode (mz_c M_c_measure) 0 = .ok (.aload_n 0, 1) := by decide +kernel
theorem d_c_measure_1 : decode (mz_c M_c_measure) 1 = .ok (.iload_n 1, 1) := by decide +kernel
theorem d_c_measure_2 : decode (mz_c M_c_measure) 2 = .ok (.putfield 52, 3) := by decide +kernel
theorem d_c_measure_5 : decode (mz_c M_c_measure) 5 = .ok (.aload_n 0, 1) := by decide +kernel
theorem d_c_measure_6 : decode (mz_c M_c_measure) 6 = .ok (.iload_n 2, 1) := by decide +kernel
theorem d_c_measure_7 : decode (mz_c M_c_measure) 7 = .ok (.putfield 55, 3) := by decide +kernel
theorem d_c_measure_10 : decode (mz_c M_c_measure) 10 = .ok (.aload_n 0, 1) := by decide +kernel
theorem d_c_measure_11 : decode (mz_c M_c_measure) 11 = .ok (.iconst 0, 1) := by decide +kernel
theorem d_c_measure_12 : decode (mz_c M_c_measure) 12 = .ok (.putfield 58, 3) := by decide +kernel
theorem d_c_measure_15 : decode (mz_c M_c_measure) 15 = .ok (.aload_n 0, 1) := by decide +kernel
theorem d_c_measure_16 : decode (mz_c M_c_measure) 16 = .ok (.iconst 0, 1) := by decide +kernel
theorem d_c_measure_17 : decode (mz_c M_c_measure) 17 = .ok (.putfield 61, 3) := by decide +kernel
theorem d_c_measure_20 : decode (mz_c M_c_measure) 20 = .ok (.aload_n 0, 1) := by decide +kernel
theorem d_c_measure_21 : decode (mz_c M_c_measure) 21 = .ok (.lconst 0, 1) := by decide +kernel
theorem d_c_measure_22 : decode (mz_c M_c_measure) 22 = .ok (.putfield 64, 3) := by decide +kernel
theorem d_c_measure_25 : decode (mz_c M_c_measure) 25 = .ok (.iconst 0, 1) := by decide +kernel
theorem d_c_measure_26 : decode (mz_c M_c_measure) 26 = .ok (.istore_n 3, 1) := by decide +kernel
theorem d_c_measure_27 : decode (mz_c M_c_measure) 27 = .ok (.iload_n 3, 1) := by decide +kernel
theorem d_c_measure_28 : decode (mz_c M_c_measure) 28 = .ok (.aload_n 0, 1) := by decide +kernel
theorem d_c_measure_29 : decode (mz_c M_c_measure) 29 = .ok (.getfield 21, 3) := by decide +kernel
theorem d_c_measure_32 : decode (mz_c M_c_measure) 32 = .ok (.if_icmp .ge 139, 3) := by decide +kernel
theorem d_c_measure_35 : decode (mz_c M_c_measure) 35 = .ok (.aload_n 0, 1) := by decide +kernel
theorem d_c_measure_36 : decode (mz_c M_c_measure) 36 = .ok (.getfield 9, 3) := by decide +kernel
theorem d_c_measure_39 : decode (mz_c M_c_measure) 39 = .ok (.iload_n 3, 1) := by decide +kernel
theorem d_c_measure_40 : decode (mz_c M_c_measure) 40 = .ok (.iaload, 1) := by decide +kernel
theorem d_c_measure_41 : decode (mz_c M_c_measure) 41 = .ok (.aload_n 0, 1) := by decide +kernel
theorem d_c_measure_42 : decode (mz_c M_c_measure) 42 = .ok (.getfield 47, 3) := by decide +kernel
theorem d_c_measure_45 : decode (mz_c M_c_measure) 45 = .ok (.if_icmp .le 45, 3) := by decide +kernel
theorem d_c_measure_48 : decode (mz_c M_c_measure) 48 = .ok (.aload_n 0, 1) := by decide +kernel
theorem d_c_measure_49 : decode (mz_c M_c_measure) 49 = .ok (.dup, 1) := by decide +kernel
theorem d_c_measure_50 : decode (mz_c M_c_measure) 50 = .ok (.getfield 52, 3) := by decide +kernel
theorem d_c_measure_53 : decode (mz_c M_c_measure) 53 = .ok (.aload_n 0, 1) := by decide +kernel
theorem d_c_measure_54 : decode (mz_c M_c_measure) 54 = .ok (.getfield 15, 3) := by decide +kernel
theorem d_c_measure_57 : decode (mz_c M_c_measure) 57 = .ok (.iload_n 3, 1) := by decide +kernel
theorem d_c_measure_58 : decode (mz_c M_c_measure) 58 = .ok (.iaload, 1) := by decide +kernel
theorem d_c_measure_59 : decode (mz_c M_c_measure) 59 = .ok (.iadd, 1) := by decide +kernel
theorem d_c_measure_60 : decode (mz_c M_c_measure) 60 = .ok (.putfield 52, 3) := by decide +kernel
theorem d_c_measure_63 : decode (mz_c M_c_measure) 63 = .ok (.aload_n 0, 1) := by decide +kernel
theorem d_c_measure_64 : decode (mz_c M_c_measure) 64 = .ok (.dup, 1) := by decide +kernel
theorem d_c_measure_65 : decode (mz_c M_c_measure) 65 = .ok (.getfield 64, 3) := by decide +kernel
theorem d_c_measure_68 : decode (mz_c M_c_measure) 68 = .ok (.aload_n 0, 1) := by decide +kernel
theorem d_c_measure_69 : decode (mz_c M_c_measure) 69 = .ok (.getfield 15, 3) := by decide +kernel
theorem d_c_measure_72 : decode (mz_c M_c_measure) 72 = .ok (.iload_n 3, 1) := by decide +kernel
theorem d_c_measure_73 : decode (mz_c M_c_measure) 73 = .ok (.iaload, 1) := by decide +kernel
theorem d_c_measure_74 : decode (mz_c M_c_measure) 74 = .ok (.i2l, 1) := by decide +kernel
theorem d_c_measure_75 : decode (mz_c M_c_measure) 75 = .ok (.aload_n 0, 1) := by decide +kernel
theorem d_c_measure_76 : decode (mz_c M_c_measure) 76 = .ok (.getfield 9, 3) := by decide +kernel
theorem d_c_measure_79 : decode (mz_c M_c_measure) 79 = .ok (.iload_n 3, 1) := by decide +kernel
theorem d_c_measure_80 : decode (mz_c M_c_measure) 80 = .ok (.iaload, 1) := by decide +kernel
theorem d_c_measure_81 : decode (mz_c M_c_measure) 81 = .ok (.i2l, 1) := by decide +kernel
theorem d_c_measure_82 : decode (mz_c M_c_measure) 82 = .ok (.lmul, 1) := by decide +kernel
theorem d_c_measure_83 : decode (mz_c M_c_measure) 83 = .ok (.ladd, 1) := by decide +kernel
theorem d_c_measure_84 : decode (mz_c M_c_measure) 84 = .ok (.putfield 64, 3) := by decide +kernel
theorem d_c_measure_87 : decode (mz_c M_c_measure) 87 = .ok (.goto 78, 3) := by decide +kernel
theorem d_c_measure_90 : decode (mz_c M_c_measure) 90 = .ok (.aload_n 0, 1) := by decide +kernel
theorem d_c_measure_91 : decode (mz_c M_c_measure) 91 = .ok (.getfield 9, 3) := by decide +kernel
theorem d_c_measure_94 : decode (mz_c M_c_measure) 94 = .ok (.iload_n 3, 1) := by decide +kernel
theorem d_c_measure_95 : decode (mz_c M_c_measure) 95 = .ok (.iaload, 1) := by decide +kernel
theorem d_c_measure_96 : decode (mz_c M_c_measure) 96 = .ok (.aload_n 0, 1) := by decide +kernel
theorem d_c_measure_97 : decode (mz_c M_c_measure) 97 = .ok (.getfield 47, 3) := by decide +kernel
theorem d_c_measure_100 : decode (mz_c M_c_measure) 100 = .ok (.if_icmp .ge 45, 3) := by decide +kernel
theorem d_c_measure_103 : decode (mz_c M_c_measure) 103 = .ok (.aload_n 0, 1) := by decide +kernel
theorem d_c_measure_104 : decode (mz_c M_c_measure) 104 = .ok (.dup, 1) := by decide +kernel
theorem d_c_measure_105 : decode (mz_c M_c_measure) 105 = .ok (.getfield 55, 3) := by decide +kernel
theorem d_c_measure_108 : decode (mz_c M_c_measure) 108 = .ok (.aload_n 0, 1) := by decide +kernel
theorem d_c_measure_109 : decode (mz_c M_c_measure) 109 = .ok (.getfield 18, 3) := by decide +kernel
theorem d_c_measure_112 : decode (mz_c M_c_measure) 112 = .ok (.iload_n 3, 1) := by decide +kernel
theorem d_c_measure_113 : decode (mz_c M_c_measure) 113 = .ok (.iaload, 1) := by decide +kernel
theorem d_c_measure_114 : decode (mz_c M_c_measure) 114 = .ok (.iadd, 1) := by decide +kernel
theorem d_c_measure_115 : decode (mz_c M_c_measure) 115 = .ok (.putfield 55, 3) := by decide +kernel
theorem d_c_measure_118 : decode (mz_c M_c_measure) 118 = .ok (.aload_n 0, 1) := by decide +kernel
theorem d_c_measure_119 : decode (mz_c M_c_measure) 119 = .ok (.dup, 1) := by decide +kernel
theorem d_c_measure_120 : decode (mz_c M_c_measure) 120 = .ok (.getfield 64, 3) := by decide +kernel
theorem d_c_measure_123 : decode (mz_c M_c_measure) 123 = .ok (.aload_n 0, 1) := by decide +kernel
theorem d_c_measure_124 : decode (mz_c M_c_measure) 124 = .ok (.getfield 18, 3) := by decide +kernel
theorem d_c_measure_127 : decode (mz_c M_c_measure) 127 = .ok (.iload_n 3, 1) := by decide +kernel
theorem d_c_measure_128 : decode (mz_c M_c_measure) 128 = .ok (.iaload, 1) := by decide +kernel
theorem d_c_measure_129 : decode (mz_c M_c_measure) 129 = .ok (.i2l, 1) := by decide +kernel
theorem d_c_measure_130 : decode (mz_c M_c_measure) 130 = .ok (.aload_n 0, 1) := by decide +kernel
theorem d_c_measure_131 : decode (mz_c M_c_measure) 131 = .ok (.getfield 9, 3) := by decide +kernel
theorem d_c_measure_134 : decode (mz_c M_c_measure) 134 = .ok (.iload_n 3, 1) := by decide +kernel
theorem d_c_measure_135 : decode (mz_c M_c_measure) 135 = .ok (.iaload, 1) := by decide +kernel
theorem d_c_measure_136 : decode (mz_c M_c_measure) 136 = .ok (.i2l, 1) := by decide +kernel
theorem d_c_measure_137 : decode (mz_c M_c_measure) 137 = .ok (.lmul, 1) := by decide +kernel
theorem d_c_measure_138 : decode (mz_c M_c_measure) 138 = .ok (.lsub, 1) := by decide +kernel
theorem d_c_measure_139 : decode (mz_c M_c_measure) 139 = .ok (.putfield 64, 3) := by decide +kernel
theorem d_c_measure_142 : decode (mz_c M_c_measure) 142 = .ok (.goto 23, 3) := by decide +kernel
theorem d_c_measure_145 : decode (mz_c M_c_measure) 145 = .ok (.aload_n 0, 1) := by decide +kernel
theorem d_c_measure_146 : decode (mz_c M_c_measure) 146 = .ok (.aload_n 0, 1) := by decide +kernel
theorem d_c_measure_147 : decode (mz_c M_c_measure) 147 = .ok (.getfield 15, 3) := by decide +kernel
theorem d_c_measure_150 : decode (mz_c M_c_measure) 150 = .ok (.iload_n 3, 1) := by decide +kernel
theorem d_c_measure_151 : decode (mz_c M_c_measure) 151 = .ok (.iaload, 1) := by decide +kernel
theorem d_c_measure_152 : decode (mz_c M_c_measure) 152 = .ok (.putfield 58, 3) := by decide +kernel
theorem d_c_measure_155 : decode (mz_c M_c_measure) 155 = .ok (.aload_n 0, 1) := by decide +kernel
theorem d_c_measure_156 : decode (mz_c M_c_measure) 156 = .ok (.aload_n 0, 1) := by decide +kernel
theorem d_c_measure_157 : decode (mz_c M_c_measure) 157 = .ok (.getfield 18, 3) := by decide +kernel
theorem d_c_measure_160 : decode (mz_c M_c_measure) 160 = .ok (.iload_n 3, 1) := by decide +kernel
theorem d_c_measure_161 : decode (mz_c M_c_measure) 161 = .ok (.iaload, 1) := by decide +kernel
theorem d_c_measure_162 : decode (mz_c M_c_measure) 162 = .ok (.putfield 61, 3) := by decide +kernel
theorem d_c_measure_165 : decode (mz_c M_c_measure) 165 = .ok (.iinc 3 1, 3) := by decide +kernel
theorem d_c_measure_168 : decode (mz_c M_c_measure) 168 = .ok (.goto (-141), 3) := by decide +kernel
theorem d_c_measure_171 : decode (mz_c M_c_measure) 171 = .ok (.aload_n 0, 1) := by decide +kernel
theorem d_c_measure_172 : decode (mz_c M_c_measure) 172 = .ok (.aload_n 0, 1) := by decide +kernel
theorem d_c_measure_173 : decode (mz_c M_c_measure) 173 = .ok (.getfield 52, 3) := by decide +kernel
theorem d_c_measure_176 : decode (mz_c M_c_measure) 176 = .ok (.aload_n 0, 1) := by decide +kernel
theorem d_c_measure_177 : decode (mz_c M_c_measure) 177 = .ok (.getfield 58, 3) := by decide +kernel
theorem d_c_measure_180 : decode (mz_c M_c_measure) 180 = .ok (.iadd, 1) := by decide +kernel
theorem d_c_measure_181 : decode (mz_c M_c_measure) 181 = .ok (.aload_n 0, 1) := by decide +kernel
theorem d_c_measure_182 : decode (mz_c M_c_measure) 182 = .ok (.getfield 55, 3) := by decide +kernel
theorem d_c_measure_185 : decode (mz_c M_c_measure) 185 = .ok (.aload_n 0, 1) := by decide +kernel
theorem d_c_measure_186 : decode (mz_c M_c_measure) 186 = .ok (.getfield 61, 3) := by decide +kernel
theorem d_c_measure_189 : decode (mz_c M_c_measure) 189 = .ok (.iadd, 1) := by decide +kernel
theorem d_c_measure_190 : decode (mz_c M_c_measure) 190 = .ok (.invokestatic 68, 3) := by decide +kernel
theorem d_c_measure_193 : decode (mz_c M_c_measure) 193 = .ok (.putfield 71, 3) := by decide +kernel
theorem d_c_measure_196 : decode (mz_c M_c_measure) 196 = .ok (.aload_n 0, 1) := by decide +kernel
theorem d_c_measure_197 : decode (mz_c M_c_measure) 197 = .ok (.dup, 1) := by decide +kernel
theorem d_c_measure_198 : decode (mz_c M_c_measure) 198 = .ok (.getfield 64, 3) := by decide +kernel
theorem d_c_measure_201 : decode (mz_c M_c_measure) 201 = .ok (.aload_n 0, 1) := by decide +kernel
theorem d_c_measure_202 : decode (mz_c M_c_measure) 202 = .ok (.iconst 0, 1) := by decide +kernel
theorem d_c_measure_203 : decode (mz_c M_c_measure) 203 = .ok (.invokevirtual 74, 3) := by decide +kernel
theorem d_c_measure_206 : decode (mz_c M_c_measure) 206 = .ok (.i2l, 1) := by decide +kernel
theorem d_c_measure_207 : decode (mz_c M_c_measure) 207 = .ok (.aload_n 0, 1) := by decide +kernel
theorem d_c_measure_208 : decode (mz_c M_c_measure) 208 = .ok (.getfield 47, 3) := by decide +kernel
theorem d_c_measure_211 : decode (mz_c M_c_measure) 211 = .ok (.i2l, 1) := by decide +kernel
theorem d_c_measure_212 : decode (mz_c M_c_measure) 212 = .ok (.lmul, 1) := by decide +kernel
theorem d_c_measure_213 : decode (mz_c M_c_measure) 213 = .ok (.aload_n 0, 1) := by decide +kernel
theorem d_c_measure_214 : decode (mz_c M_c_measure) 214 = .ok (.iconst 1, 1) := by decide +kernel
theorem d_c_measure_215 : decode (mz_c M_c_measure) 215 = .ok (.invokevirtual 74, 3) := by decide +kernel
theorem d_c_measure_218 : decode (mz_c M_c_measure) 218 = .ok (.i2l, 1) := by decide +kernel
theorem d_c_measure_219 : decode (mz_c M_c_measure) 219 = .ok (.aload_n 0, 1) := by decide +kernel
theorem d_c_measure_220 : decode (mz_c M_c_measure) 220 = .ok (.getfield 47, 3) := by decide +kernel
theorem d_c_measure_223 : decode (mz_c M_c_measure) 223 = .ok (.i2l, 1) := by decide +kernel
theorem d_c_measure_224 : decode (mz_c M_c_measure) 224 = .ok (.lmul, 1) := by decide +kernel
theorem d_c_measure_225 : decode (mz_c M_c_measure) 225 = .ok (.lsub, 1) := by decide +kernel
theorem d_c_measure_226 : decode (mz_c M_c_measure) 226 = .ok (.ladd, 1) := by decide +kernel
theorem d_c_measure_227 : decode (mz_c M_c_measure) 227 = .ok (.putfield 64, 3) := by decide +kernel
theorem d_c_measure_230 : decode (mz_c M_c_measure) 230 = .ok (.return_, 1) := by decide +kernel
theorem d_c_shared_0 : decode (mz_c M_c_shared) 0 = .ok (.iload_n 1, 1) := by decide +kernel
theorem d_c_shared_1 : decode (mz_c M_c_shared) 1 = .ok (.ifCond .ne 15, 3) := by decide +kernel
theorem d_c_shared_4 : decode (mz_c M_c_shared) 4 = .ok (.aload_n 0, 1) := by decide +kernel
theorem d_c_shared_5 : decode (mz_c M_c_shared) 5 = .ok (.getfield 71, 3) := by decide +kernel
theorem d_c_shared_8 : decode (mz_c M_c_shared) 8 = .ok (.aload_n 0, 1) := by decide +kernel
theorem d_c_shared_9 : decode (mz_c M_c_shared) 9 = .ok (.getfield 52, 3) := by decide +kernel
theorem d_c_shared_12 : decode (mz_c M_c_shared) 12 = .ok (.isub, 1) := by decide +kernel
theorem d_c_shared_13 : decode (mz_c M_c_shared) 13 = .ok (.goto 12, 3) := by decide +kernel
theorem d_c_shared_16 : decode (mz_c M_c_shared) 16 = .ok (.aload_n 0, 1) := by decide +kernel
theorem d_c_shared_17 : decode (mz_c M_c_shared) 17 = .ok (.getfield 71, 3) := by decide +kernel
theorem d_c_shared_20 : decode (mz_c M_c_shared) 20 = .ok (.aload_n 0, 1) := by decide +kernel
theorem d_c_shared_21 : decode (mz_c M_c_shared) 21 = .ok (.getfield 55, 3) := by decide +kernel
theorem d_c_shared_24 : decode (mz_c M_c_shared) 24 = .ok (.isub, 1) := by decide +kernel
theorem d_c_shared_25 : decode (mz_c M_c_shared) 25 = .ok (.ireturn, 1) := by decide +kernel
theorem d_c_quantityAtPrice_0 : decode (mz_c M_c_quantityAtPrice) 0 = .ok (.iload_n 1, 1) := by decide +kernel
theorem d_c_quantityAtPrice_1 : decode (mz_c M_c_quantityAtPrice) 1 = .ok (.ifCond .ne 10, 3) := by decide +kernel
theorem d_c_quantityAtPrice_4 : decode (mz_c M_c_quantityAtPrice) 4 = .ok (.aload_n 0, 1) := by decide +kernel
theorem d_c_quantityAtPrice_5 : decode (mz_c M_c_quantityAtPrice) 5 = .ok (.getfield 58, 3) := by decide +kernel
theorem d_c_quantityAtPrice_8 : decode (mz_c M_c_quantityAtPrice) 8 = .ok (.goto 7, 3) := by decide +kernel
theorem d_c_quantityAtPrice_11 : decode (mz_c M_c_quantityAtPrice) 11 = .ok (.aload_n 0, 1) := by decide +kernel
theorem d_c_quantityAtPrice_12 : decode (mz_c M_c_quantityAtPrice) 12 = .ok (.getfield 61, 3) := by decide +kernel
theorem d_c_quantityAtPrice_15 : decode (mz_c M_c_quantityAtPrice) 15 = .ok (.ireturn, 1) := by decide +kernel
theorem d_mk_init_0 : decode (mz_c M_mk_init) 0 = .ok (.aload_n 0, 1) := by decide +kernel
theorem d_mk_init_1 : decode (mz_c M_mk_init) 1 = .ok (.invokespecial 3, 3) := by decide +kernel
theorem d_mk_init_4 : decode (mz_c M_mk_init) 4 = .ok (.aload_n 0, 1) := by decide +kernel
theorem d_mk_init_5 : decode (mz_c M_mk_init) 5 = .ok (.aload_n 1, 1) := by decide +kernel
theorem d_mk_init_6 : decode (mz_c M_mk_init) 6 = .ok (.putfield 9, 3) := by decide +kernel
theorem d_mk_init_9 : decode (mz_c M_mk_init) 9 = .ok (.aload_n 0, 1) := by decide +kernel
theorem d_mk_init_10 : decode (mz_c M_mk_init) 10 = .ok (.iconst 3, 1) := by decide +kernel
theorem d_mk_init_11 : decode (mz_c M_mk_init) 11 = .ok (.anewarray 15, 3) := by decide +kernel
theorem d_mk_init_14 : decode (mz_c M_mk_init) 14 = .ok (.putfield 17, 3) := by decide +kernel
theorem d_mk_init_17 : decode (mz_c M_mk_init) 17 = .ok (.iconst 0, 1) := by decide +kernel
theorem d_mk_init_18 : decode (mz_c M_mk_init) 18 = .ok (.istore_n 2, 1) := by decide +kernel
theorem d_mk_init_19 : decode (mz_c M_mk_init) 19 = .ok (.iload_n 2, 1) := by decide +kernel
theorem d_mk_init_20 : decode (mz_c M_mk_init) 20 = .ok (.iconst 3, 1) := by decide +kernel
theorem d_mk_init_21 : decode (mz_c M_mk_init) 21 = .ok (.if_icmp .ge 22, 3) := by decide +kernel
theorem d_mk_init_24 : decode (mz_c M_mk_init) 24 = .ok (.aload_n 0, 1) := by decide +kernel
theorem d_mk_init_25 : decode (mz_c M_mk_init) 25 = .ok (.getfield 17, 3) := by decide +kernel
theorem d_mk_init_28 : decode (mz_c M_mk_init) 28 = .ok (.iload_n 2, 1) := by decide +kernel
theorem d_mk_init_29 : decode (mz_c M_mk_init) 29 = .ok (.new 15, 3) := by decide +kernel
theorem d_mk_init_32 : decode (mz_c M_mk_init) 32 = .ok (.dup, 1) := by decide +kernel
theorem d_mk_init_33 : decode (mz_c M_mk_init) 33 = .ok (.invokespecial 21, 3) := by decide +kernel
theorem d_mk_init_36 : decode (mz_c M_mk_init) 36 = .ok (.aastore, 1) := by decide +kernel
theorem d_mk_init_37 : decode (mz_c M_mk_init) 37 = .ok (.iinc 2 1, 3) := by decide +kernel
theorem d_mk_init_40 : decode (mz_c M_mk_init) 40 = .ok (.goto (-21), 3) := by decide +kernel
theorem d_mk_init_43 : decode (mz_c M_mk_init) 43 = .ok (.aload_n 0, 1) := by decide +kernel
theorem d_mk_init_44 : decode (mz_c M_mk_init) 44 = .ok (.bipush 60, 2) := by decide +kernel
theorem d_mk_init_46 : decode (mz_c M_mk_init) 46 = .ok (.newarray .int, 2) := by decide +kernel
theorem d_mk_init_48 : decode (mz_c M_mk_init) 48 = .ok (.putfield 22, 3) := by decide +kernel
theorem d_mk_init_51 : decode (mz_c M_mk_init) 51 = .ok (.aload_n 0, 1) := by decide +kernel
theorem d_mk_init_52 : decode (mz_c M_mk_init) 52 = .ok (.bipush 60, 2) := by decide +kernel
theorem d_mk_init_54 : decode (mz_c M_mk_init) 54 = .ok (.newarray .int, 2) := by decide +kernel
theorem d_mk_init_56 : decode (mz_c M_mk_init) 56 = .ok (.putfield 26, 3) := by decide +kernel
theorem d_mk_init_59 : decode (mz_c M_mk_init) 59 = .ok (.aload_n 0, 1) := by decide +kernel
theorem d_mk_init_60 : decode (mz_c M_mk_init) 60 = .ok (.bipush 60, 2) := by decide +kernel
theorem d_mk_init_62 : decode (mz_c M_mk_init) 62 = .ok (.newarray .int, 2) := by decide +kernel
theorem d_mk_init_64 : decode (mz_c M_mk_init) 64 = .ok (.putfield 29, 3) := by decide +kernel
theorem d_mk_init_67 : decode (mz_c M_mk_init) 67 = .ok (.aload_n 0, 1) := by decide +kernel
theorem d_mk_init_68 : decode (mz_c M_mk_init) 68 = .ok (.bipush 8, 2) := by decide +kernel
theorem d_mk_init_70 : decode (mz_c M_mk_init) 70 = .ok (.newarray .int, 2) := by decide +kernel
theorem d_mk_init_72 : decode (mz_c M_mk_init) 72 = .ok (.putfield 32, 3) := by decide +kernel
theorem d_mk_init_75 : decode (mz_c M_mk_init) 75 = .ok (.aload_n 0, 1) := by decide +kernel
theorem d_mk_init_76 : decode (mz_c M_mk_init) 76 = .ok (.iconst 3, 1) := by decide +kernel
theorem d_mk_init_77 : decode (mz_c M_mk_init) 77 = .ok (.newarray .int, 2) := by decide +kernel
theorem d_mk_init_79 : decode (mz_c M_mk_init) 79 = .ok (.putfield 35, 3) := by decide +kernel
theorem d_mk_init_82 : decode (mz_c M_mk_init) 82 = .ok (.aload_n 0, 1) := by decide +kernel
theorem d_mk_init_83 : decode (mz_c M_mk_init) 83 = .ok (.iconst 3, 1) := by decide +kernel
theorem d_mk_init_84 : decode (mz_c M_mk_init) 84 = .ok (.newarray .int, 2) := by decide +kernel
theorem d_mk_init_86 : decode (mz_c M_mk_init) 86 = .ok (.putfield 38, 3) := by decide +kernel
theorem d_mk_init_89 : decode (mz_c M_mk_init) 89 = .ok (.return_, 1) := by decide +kernel
theorem d_mk_load_0 : decode (mz_c M_mk_load) 0 = .ok (.aload_n 0, 1) := by decide +kernel
theorem d_mk_load_1 : decode (mz_c M_mk_load) 1 = .ok (.iconst 0, 1) := by decide +kernel
theorem d_mk_load_2 : decode (mz_c M_mk_load) 2 = .ok (.putfield 41, 3) := by decide +kernel
theorem d_mk_load_5 : decode (mz_c M_mk_load) 5 = .ok (.aload_n 0, 1) := by decide +kernel
theorem d_mk_load_6 : decode (mz_c M_mk_load) 6 = .ok (.iconst 0, 1) := by decide +kernel
theorem d_mk_load_7 : decode (mz_c M_mk_load) 7 = .ok (.putfield 45, 3) := by decide +kernel
theorem d_mk_load_10 : decode (mz_c M_mk_load) 10 = .ok (.iconst 0, 1) := by decide +kernel
theorem d_mk_load_11 : decode (mz_c M_mk_load) 11 = .ok (.istore 4, 2) := by decide +kernel
theorem d_mk_load_13 : decode (mz_c M_mk_load) 13 = .ok (.iload 4, 2) := by decide +kernel
theorem d_mk_load_15 : decode (mz_c M_mk_load) 15 = .ok (.iconst 3, 1) := by decide +kernel
theorem d_mk_load_16 : decode (mz_c M_mk_load) 16 = .ok (.if_icmp .ge 19, 3) := by decide +kernel
theorem d_mk_load_19 : decode (mz_c M_mk_load) 19 = .ok (.aload_n 0, 1) := by decide +kernel
theorem d_mk_load_20 : decode (mz_c M_mk_load) 20 = .ok (.getfield 17, 3) := by decide +kernel
theorem d_mk_load_23 : decode (mz_c M_mk_load) 23 = .ok (.iload 4, 2) := by decide +kernel
theorem d_mk_load_25 : decode (mz_c M_mk_load) 25 = .ok (.aaload, 1) := by decide +kernel
theorem d_mk_load_26 : decode (mz_c M_mk_load) 26 = .ok (.invokevirtual 48, 3) := by decide +kernel
theorem d_mk_load_29 : decode (mz_c M_mk_load) 29 = .ok (.iinc 4 1, 3) := by decide +kernel
theorem d_mk_load_32 : decode (mz_c M_mk_load) 32 = .ok (.goto (-19), 3) := by decide +kernel
theorem d_mk_load_35 : decode (mz_c M_mk_load) 35 = .ok (.iconst 0, 1) := by decide +kernel
theorem d_mk_load_36 : decode (mz_c M_mk_load) 36 = .ok (.istore 4, 2) := by decide +kernel
theorem d_mk_load_38 : decode (mz_c M_mk_load) 38 = .ok (.iload 4, 2) := by decide +kernel
theorem d_mk_load_40 : decode (mz_c M_mk_load) 40 = .ok (.iload_n 3, 1) := by decide +kernel
theorem d_mk_load_41 : decode (mz_c M_mk_load) 41 = .ok (.if_icmp .ge 62, 3) := by decide +kernel
theorem d_mk_load_44 : decode (mz_c M_mk_load) 44 = .ok (.aload_n 1, 1) := by decide +kernel
theorem d_mk_load_45 : decode (mz_c M_mk_load) 45 = .ok (.iload_n 2, 1) := by decide +kernel
theorem d_mk_load_46 : decode (mz_c M_mk_load) 46 = .ok (.iload 4, 2) := by decide +kernel
theorem d_mk_load_48 : decode (mz_c M_mk_load) 48 = .ok (.invokevirtual 51, 3) := by decide +kernel
theorem d_mk_load_51 : decode (mz_c M_mk_load) 51 = .ok (.istore 5, 2) := by decide +kernel
theorem d_mk_load_53 : decode (mz_c M_mk_load) 53 = .ok (.iconst 0, 1) := by decide +kernel
theorem d_mk_load_54 : decode (mz_c M_mk_load) 54 = .ok (.istore 6, 2) := by decide +kernel
theorem d_mk_load_56 : decode (mz_c M_mk_load) 56 = .ok (.iload 6, 2) := by decide +kernel
theorem d_mk_load_58 : decode (mz_c M_mk_load) 58 = .ok (.aload_n 0, 1) := by decide +kernel
theorem d_mk_load_59 : decode (mz_c M_mk_load) 59 = .ok (.getfield 9, 3) := by decide +kernel
theorem d_mk_load_62 : decode (mz_c M_mk_load) 62 = .ok (.getfield 57, 3) := by decide +kernel
theorem d_mk_load_65 : decode (mz_c M_mk_load) 65 = .ok (.iload 5, 2) := by decide +kernel
theorem d_mk_load_67 : decode (mz_c M_mk_load) 67 = .ok (.iaload, 1) := by decide +kernel
theorem d_mk_load_68 : decode (mz_c M_mk_load) 68 = .ok (.if_icmp .ge 29, 3) := by decide +kernel
theorem d_mk_load_71 : decode (mz_c M_mk_load) 71 = .ok (.aload_n 0, 1) := by decide +kernel
theorem d_mk_load_72 : decode (mz_c M_mk_load) 72 = .ok (.bipush 10, 2) := by decide +kernel
theorem d_mk_load_74 : decode (mz_c M_mk_load) 74 = .ok (.iload 5, 2) := by decide +kernel
theorem d_mk_load_76 : decode (mz_c M_mk_load) 76 = .ok (.imul, 1) := by decide +kernel
theorem d_mk_load_77 : decode (mz_c M_mk_load) 77 = .ok (.iload 6, 2) := by decide +kernel
theorem d_mk_load_79 : decode (mz_c M_mk_load) 79 = .ok (.iadd, 1) := by decide +kernel
theorem d_mk_load_80 : decode (mz_c M_mk_load) 80 = .ok (.bipush 10, 2) := by decide +kernel
theorem d_mk_load_82 : decode (mz_c M_mk_load) 82 = .ok (.iload 4, 2) := by decide +kernel
theorem d_mk_load_84 : decode (mz_c M_mk_load) 84 = .ok (.imul, 1) := by decide +kernel
theorem d_mk_load_85 : decode (mz_c M_mk_load) 85 = .ok (.iload 6, 2) := by decide +kernel
theorem d_mk_load_87 : decode (mz_c M_mk_load) 87 = .ok (.iadd, 1) := by decide +kernel
theorem d_mk_load_88 : decode (mz_c M_mk_load) 88 = .ok (.invokevirtual 62, 3) := by decide +kernel
theorem d_mk_load_91 : decode (mz_c M_mk_load) 91 = .ok (.iinc 6 1, 3) := by decide +kernel
theorem d_mk_load_94 : decode (mz_c M_mk_load) 94 = .ok (.goto (-38), 3) := by decide +kernel
theorem d_mk_load_97 : decode (mz_c M_mk_load) 97 = .ok (.iinc 4 1, 3) := by decide +kernel
theorem d_mk_load_100 : decode (mz_c M_mk_load) 100 = .ok (.goto (-62), 3) := by decide +kernel
theorem d_mk_load_103 : decode (mz_c M_mk_load) 103 = .ok (.return_, 1) := by decide +kernel
theorem d_mk_addEntry_0 : decode (mz_c M_mk_addEntry) 0 = .ok (.aload_n 0, 1) := by decide +kernel
theorem d_mk_addEntry_1 : decode (mz_c M_mk_addEntry) 1 = .ok (.getfield 41, 3) := by decide +kernel
theorem d_mk_addEntry_4 : decode (mz_c M_mk_addEntry) 4 = .ok (.bipush 60, 2) := by decide +kernel
theorem d_mk_addEntry_6 : decode (mz_c M_mk_addEntry) 6 = .ok (.if_icmp .lt 4, 3) := by decide +kernel
theorem d_mk_addEntry_9 : decode (mz_c M_mk_addEntry) 9 = .ok (.return_, 1) := by decide +kernel
theorem d_mk_addEntry_10 : decode (mz_c M_mk_addEntry) 10 = .ok (.aload_n 0, 1) := by decide +kernel
theorem d_mk_addEntry_11 : decode (mz_c M_mk_addEntry) 11 = .ok (.getfield 22, 3) := by decide +kernel
theorem d_mk_addEntry_14 : decode (mz_c M_mk_addEntry) 14 = .ok (.aload_n 0, 1) := by decide +kernel
theorem d_mk_addEntry_15 : decode (mz_c M_mk_addEntry) 15 = .ok (.getfield 41, 3) := by decide +kernel
theorem d_mk_addEntry_18 : decode (mz_c M_mk_addEntry) 18 = .ok (.iload_n 1, 1) := by decide +kernel
theorem d_mk_addEntry_19 : decode (mz_c M_mk_addEntry) 19 = .ok (.iastore, 1) := by decide +kernel
theorem d_mk_addEntry_20 : decode (mz_c M_mk_addEntry) 20 = .ok (.aload_n 0, 1) := by decide +kernel
theorem d_mk_addEntry_21 : decode (mz_c M_mk_addEntry) 21 = .ok (.getfield 26, 3) := by decide +kernel
theorem d_mk_addEntry_24 : decode (mz_c M_mk_addEntry) 24 = .ok (.aload_n 0, 1) := by decide +kernel
theorem d_mk_addEntry_25 : decode (mz_c M_mk_addEntry) 25 = .ok (.getfield 41, 3) := by decide +kernel
theorem d_mk_addEntry_28 : decode (mz_c M_mk_addEntry) 28 = .ok (.iload_n 2, 1) := by decide +kernel
theorem d_mk_addEntry_29 : decode (mz_c M_mk_addEntry) 29 = .ok (.iastore, 1) := by decide +kernel
theorem d_mk_addEntry_30 : decode (mz_c M_mk_addEntry) 30 = .ok (.aload_n 0, 1) := by decide +kernel
theorem d_mk_addEntry_31 : decode (mz_c M_mk_addEntry) 31 = .ok (.dup, 1) := by decide +kernel
theorem d_mk_addEntry_32 : decode (mz_c M_mk_addEntry) 32 = .ok (.getfield 41, 3) := by decide +kernel
theorem d_mk_addEntry_35 : decode (mz_c M_mk_addEntry) 35 = .ok (.iconst 1, 1) := by decide +kernel
theorem d_mk_addEntry_36 : decode (mz_c M_mk_addEntry) 36 = .ok (.iadd, 1) := by decide +kernel
theorem d_mk_addEntry_37 : decode (mz_c M_mk_addEntry) 37 = .ok (.putfield 41, 3) := by decide +kernel
theorem d_mk_addEntry_40 : decode (mz_c M_mk_addEntry) 40 = .ok (.aload_n 0, 1) := by decide +kernel
theorem d_mk_addEntry_41 : decode (mz_c M_mk_addEntry) 41 = .ok (.getfield 9, 3) := by decide +kernel
theorem d_mk_addEntry_44 : decode (mz_c M_mk_addEntry) 44 = .ok (.iload_n 1, 1) := by decide +kernel
theorem d_mk_addEntry_45 : decode (mz_c M_mk_addEntry) 45 = .ok (.invokevirtual 66, 3) := by decide +kernel
theorem d_mk_addEntry_48 : decode (mz_c M_mk_addEntry) 48 = .ok (.ifCond .ne 50, 3) := by decide +kernel
theorem d_mk_addEntry_51 : decode (mz_c M_mk_addEntry) 51 = .ok (.aload_n 0, 1) := by decide +kernel
theorem d_mk_addEntry_52 : decode (mz_c M_mk_addEntry) 52 = .ok (.getfield 17, 3) := by decide +kernel
theorem d_mk_addEntry_55 : decode (mz_c M_mk_addEntry) 55 = .ok (.aload_n 0, 1) := by decide +kernel
theorem d_mk_addEntry_56 : decode (mz_c M_mk_addEntry) 56 = .ok (.getfield 9, 3) := by decide +kernel
theorem d_mk_addEntry_59 : decode (mz_c M_mk_addEntry) 59 = .ok (.getfield 70, 3) := by decide +kernel
theorem d_mk_addEntry_62 : decode (mz_c M_mk_addEntry) 62 = .ok (.iload_n 1, 1) := by decide +kernel
theorem d_mk_addEntry_63 : decode (mz_c M_mk_addEntry) 63 = .ok (.iaload, 1) := by decide +kernel
theorem d_mk_addEntry_64 : decode (mz_c M_mk_addEntry) 64 = .ok (.aaload, 1) := by decide +kernel
theorem d_mk_addEntry_65 : decode (mz_c M_mk_addEntry) 65 = .ok (.aload_n 0, 1) := by decide +kernel
theorem d_mk_addEntry_66 : decode (mz_c M_mk_addEntry) 66 = .ok (.getfield 9, 3) := by decide +kernel
theorem d_mk_addEntry_69 : decode (mz_c M_mk_addEntry) 69 = .ok (.getfield 73, 3) := by decide +kernel
theorem d_mk_addEntry_72 : decode (mz_c M_mk_addEntry) 72 = .ok (.iload_n 1, 1) := by decide +kernel
theorem d_mk_addEntry_73 : decode (mz_c M_mk_addEntry) 73 = .ok (.iaload, 1) := by decide +kernel
theorem d_mk_addEntry_74 : decode (mz_c M_mk_addEntry) 74 = .ok (.aload_n 0, 1) := by decide +kernel
theorem d_mk_addEntry_75 : decode (mz_c M_mk_addEntry) 75 = .ok (.getfield 9, 3) := by decide +kernel
theorem d_mk_addEntry_78 : decode (mz_c M_mk_addEntry) 78 = .ok (.getfield 76, 3) := by decide +kernel
theorem d_mk_addEntry_81 : decode (mz_c M_mk_addEntry) 81 = .ok (.iload_n 1, 1) := by decide +kernel
theorem d_mk_addEntry_82 : decode (mz_c M_mk_addEntry) 82 = .ok (.iaload, 1) := by decide +kernel
theorem d_mk_addEntry_83 : decode (mz_c M_mk_addEntry) 83 = .ok (.aload_n 0, 1) := by decide +kernel
theorem d_mk_addEntry_84 : decode (mz_c M_mk_addEntry) 84 = .ok (.getfield 9, 3) := by decide +kernel
theorem d_mk_addEntry_87 : decode (mz_c M_mk_addEntry) 87 = .ok (.getfield 79, 3) := by decide +kernel
theorem d_mk_addEntry_90 : decode (mz_c M_mk_addEntry) 90 = .ok (.iload_n 1, 1) := by decide +kernel
theorem d_mk_addEntry_91 : decode (mz_c M_mk_addEntry) 91 = .ok (.iaload, 1) := by decide +kernel
theorem d_mk_addEntry_92 : decode (mz_c M_mk_addEntry) 92 = .ok (.invokevirtual 82, 3) := by decide +kernel
theorem d_mk_addEntry_95 : decode (mz_c M_mk_addEntry) 95 = .ok (.goto 32, 3) := by decide +kernel
theorem d_mk_addEntry_98 : decode (mz_c M_mk_addEntry) 98 = .ok (.aload_n 0, 1) := by decide +kernel
theorem d_mk_addEntry_99 : decode (mz_c M_mk_addEntry) 99 = .ok (.getfield 45, 3) := by decide +kernel
theorem d_mk_addEntry_102 : decode (mz_c M_mk_addEntry) 102 = .ok (.bipush 8, 2) := by decide +kernel
theorem d_mk_addEntry_104 : decode (mz_c M_mk_addEntry) 104 = .ok (.if_icmp .ge 23, 3) := by decide +kernel
theorem d_mk_addEntry_107 : decode (mz_c M_mk_addEntry) 107 = .ok (.aload_n 0, 1) := by decide +kernel
theorem d_mk_addEntry_108 : decode (mz_c M_mk_addEntry) 108 = .ok (.getfield 32, 3) := by decide +kernel
theorem d_mk_addEntry_111 : decode (mz_c M_mk_addEntry) 111 = .ok (.aload_n 0, 1) := by decide +kernel
