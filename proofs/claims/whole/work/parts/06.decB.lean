theorem dX4_init_0 : decode cX4_init 0 = .ok (.aload_n 0, 1) := by decide +kernel
theorem dX4_init_1 : decode cX4_init 1 = .ok (.invokespecial 3, 3) := by decide +kernel
theorem dX4_init_4 : decode cX4_init 4 = .ok (.aload_n 0, 1) := by decide +kernel
theorem dX4_init_5 : decode cX4_init 5 = .ok (.new 9, 3) := by decide +kernel
theorem dX4_init_8 : decode cX4_init 8 = .ok (.dup, 1) := by decide +kernel
theorem dX4_init_9 : decode cX4_init 9 = .ok (.invokespecial 11, 3) := by decide +kernel
theorem dX4_init_12 : decode cX4_init 12 = .ok (.putfield 12, 3) := by decide +kernel
theorem dX4_init_15 : decode cX4_init 15 = .ok (.aload_n 0, 1) := by decide +kernel
theorem dX4_init_16 : decode cX4_init 16 = .ok (.bipush 12, 2) := by decide +kernel
theorem dX4_init_18 : decode cX4_init 18 = .ok (.newarray .int, 2) := by decide +kernel
theorem dX4_init_20 : decode cX4_init 20 = .ok (.putfield 18, 3) := by decide +kernel
theorem dX4_init_23 : decode cX4_init 23 = .ok (.aload_n 0, 1) := by decide +kernel
theorem dX4_init_24 : decode cX4_init 24 = .ok (.bipush 12, 2) := by decide +kernel
theorem dX4_init_26 : decode cX4_init 26 = .ok (.bipush 12, 2) := by decide +kernel
theorem dX4_init_28 : decode cX4_init 28 = .ok (.multianewarray 22 2, 4) := by decide +kernel
theorem dX4_init_32 : decode cX4_init 32 = .ok (.putfield 24, 3) := by decide +kernel
theorem dX4_init_35 : decode cX4_init 35 = .ok (.aload_n 0, 1) := by decide +kernel
theorem dX4_init_36 : decode cX4_init 36 = .ok (.bipush 12, 2) := by decide +kernel
theorem dX4_init_38 : decode cX4_init 38 = .ok (.bipush 8, 2) := by decide +kernel
theorem dX4_init_40 : decode cX4_init 40 = .ok (.multianewarray 22 2, 4) := by decide +kernel
theorem dX4_init_44 : decode cX4_init 44 = .ok (.putfield 27, 3) := by decide +kernel
theorem dX4_init_47 : decode cX4_init 47 = .ok (.aload_n 0, 1) := by decide +kernel
theorem dX4_init_48 : decode cX4_init 48 = .ok (.bipush 12, 2) := by decide +kernel
theorem dX4_init_50 : decode cX4_init 50 = .ok (.bipush 8, 2) := by decide +kernel
theorem dX4_init_52 : decode cX4_init 52 = .ok (.multianewarray 22 2, 4) := by decide +kernel
theorem dX4_init_56 : decode cX4_init 56 = .ok (.putfield 30, 3) := by decide +kernel
theorem dX4_init_59 : decode cX4_init 59 = .ok (.aload_n 0, 1) := by decide +kernel
theorem dX4_init_60 : decode cX4_init 60 = .ok (.sipush 4096, 3) := by decide +kernel
theorem dX4_init_63 : decode cX4_init 63 = .ok (.newarray .int, 2) := by decide +kernel
theorem dX4_init_65 : decode cX4_init 65 = .ok (.putfield 33, 3) := by decide +kernel
theorem dX4_init_68 : decode cX4_init 68 = .ok (.aload_n 0, 1) := by decide +kernel
theorem dX4_init_69 : decode cX4_init 69 = .ok (.iconst 0, 1) := by decide +kernel
theorem dX4_init_70 : decode cX4_init 70 = .ok (.putfield 36, 3) := by decide +kernel
theorem dX4_init_73 : decode cX4_init 73 = .ok (.aload_n 0, 1) := by decide +kernel
theorem dX4_init_74 : decode cX4_init 74 = .ok (.sipush 4096, 3) := by decide +kernel
theorem dX4_init_77 : decode cX4_init 77 = .ok (.newarray .int, 2) := by decide +kernel
theorem dX4_init_79 : decode cX4_init 79 = .ok (.putfield 40, 3) := by decide +kernel
theorem dX4_init_82 : decode cX4_init 82 = .ok (.aload_n 0, 1) := by decide +kernel
theorem dX4_init_83 : decode cX4_init 83 = .ok (.iconst 1, 1) := by decide +kernel
theorem dX4_init_84 : decode cX4_init 84 = .ok (.putfield 43, 3) := by decide +kernel
theorem dX4_init_87 : decode cX4_init 87 = .ok (.return_, 1) := by decide +kernel
theorem dX4_forget_0 : decode cX4_forget 0 = .ok (.aload_n 0, 1) := by decide +kernel
theorem dX4_forget_1 : decode cX4_forget 1 = .ok (.dup, 1) := by decide +kernel
theorem dX4_forget_2 : decode cX4_forget 2 = .ok (.getfield 43, 3) := by decide +kernel
theorem dX4_forget_5 : decode cX4_forget 5 = .ok (.iconst 1, 1) := by decide +kernel
theorem dX4_forget_6 : decode cX4_forget 6 = .ok (.iadd, 1) := by decide +kernel
theorem dX4_forget_7 : decode cX4_forget 7 = .ok (.putfield 43, 3) := by decide +kernel
theorem dX4_forget_10 : decode cX4_forget 10 = .ok (.return_, 1) := by decide +kernel
theorem dX4_fits_0 : decode cX4_fits 0 = .ok (.iload_n 1, 1) := by decide +kernel
theorem dX4_fits_1 : decode cX4_fits 1 = .ok (.ifCond .lt 10, 3) := by decide +kernel
theorem dX4_fits_4 : decode cX4_fits 4 = .ok (.iload_n 1, 1) := by decide +kernel
theorem dX4_fits_5 : decode cX4_fits 5 = .ok (.sipush 4096, 3) := by decide +kernel
theorem dX4_fits_8 : decode cX4_fits 8 = .ok (.if_icmp .lt 5, 3) := by decide +kernel
theorem dX4_fits_11 : decode cX4_fits 11 = .ok (.iconst 0, 1) := by decide +kernel
theorem dX4_fits_12 : decode cX4_fits 12 = .ok (.ireturn, 1) := by decide +kernel
theorem dX4_fits_13 : decode cX4_fits 13 = .ok (.aload_n 0, 1) := by decide +kernel
theorem dX4_fits_14 : decode cX4_fits 14 = .ok (.getfield 40, 3) := by decide +kernel
theorem dX4_fits_17 : decode cX4_fits 17 = .ok (.iload_n 1, 1) := by decide +kernel
theorem dX4_fits_18 : decode cX4_fits 18 = .ok (.iaload, 1) := by decide +kernel
theorem dX4_fits_19 : decode cX4_fits 19 = .ok (.iconst 1, 1) := by decide +kernel
theorem dX4_fits_20 : decode cX4_fits 20 = .ok (.ishr, 1) := by decide +kernel
theorem dX4_fits_21 : decode cX4_fits 21 = .ok (.aload_n 0, 1) := by decide +kernel
theorem dX4_fits_22 : decode cX4_fits 22 = .ok (.getfield 43, 3) := by decide +kernel
theorem dX4_fits_25 : decode cX4_fits 25 = .ok (.if_icmp .eq 33, 3) := by decide +kernel
theorem dX4_fits_28 : decode cX4_fits 28 = .ok (.aload_n 0, 1) := by decide +kernel
theorem dX4_fits_29 : decode cX4_fits 29 = .ok (.aload_n 0, 1) := by decide +kernel
theorem dX4_fits_30 : decode cX4_fits 30 = .ok (.getfield 12, 3) := by decide +kernel
theorem dX4_fits_33 : decode cX4_fits 33 = .ok (.getfield 46, 3) := by decide +kernel
theorem dX4_fits_36 : decode cX4_fits 36 = .ok (.invokevirtual 49, 3) := by decide +kernel
theorem dX4_fits_39 : decode cX4_fits 39 = .ok (.aload_n 0, 1) := by decide +kernel
theorem dX4_fits_40 : decode cX4_fits 40 = .ok (.getfield 40, 3) := by decide +kernel
theorem dX4_fits_43 : decode cX4_fits 43 = .ok (.iload_n 1, 1) := by decide +kernel
theorem dX4_fits_44 : decode cX4_fits 44 = .ok (.iconst 2, 1) := by decide +kernel
theorem dX4_fits_45 : decode cX4_fits 45 = .ok (.aload_n 0, 1) := by decide +kernel
theorem dX4_fits_46 : decode cX4_fits 46 = .ok (.getfield 43, 3) := by decide +kernel
theorem dX4_fits_49 : decode cX4_fits 49 = .ok (.imul, 1) := by decide +kernel
theorem dX4_fits_50 : decode cX4_fits 50 = .ok (.aload_n 0, 1) := by decide +kernel
theorem dX4_fits_51 : decode cX4_fits 51 = .ok (.iload_n 1, 1) := by decide +kernel
theorem dX4_fits_52 : decode cX4_fits 52 = .ok (.iconst 1, 1) := by decide +kernel
theorem dX4_fits_53 : decode cX4_fits 53 = .ok (.invokevirtual 53, 3) := by decide +kernel
theorem dX4_fits_56 : decode cX4_fits 56 = .ok (.iadd, 1) := by decide +kernel
theorem dX4_fits_57 : decode cX4_fits 57 = .ok (.iastore, 1) := by decide +kernel
theorem dX4_fits_58 : decode cX4_fits 58 = .ok (.aload_n 0, 1) := by decide +kernel
theorem dX4_fits_59 : decode cX4_fits 59 = .ok (.getfield 40, 3) := by decide +kernel
theorem dX4_fits_62 : decode cX4_fits 62 = .ok (.iload_n 1, 1) := by decide +kernel
theorem dX4_fits_63 : decode cX4_fits 63 = .ok (.iaload, 1) := by decide +kernel
theorem dX4_fits_64 : decode cX4_fits 64 = .ok (.iconst 1, 1) := by decide +kernel
theorem dX4_fits_65 : decode cX4_fits 65 = .ok (.iand, 1) := by decide +kernel
theorem dX4_fits_66 : decode cX4_fits 66 = .ok (.iconst 1, 1) := by decide +kernel
theorem dX4_fits_67 : decode cX4_fits 67 = .ok (.if_icmp .ne 7, 3) := by decide +kernel
theorem dX4_fits_70 : decode cX4_fits 70 = .ok (.iconst 1, 1) := by decide +kernel
theorem dX4_fits_71 : decode cX4_fits 71 = .ok (.goto 4, 3) := by decide +kernel
theorem dX4_fits_74 : decode cX4_fits 74 = .ok (.iconst 0, 1) := by decide +kernel
theorem dX4_fits_75 : decode cX4_fits 75 = .ok (.ireturn, 1) := by decide +kernel
theorem dX4_allow_0 : decode cX4_allow 0 = .ok (.iconst 0, 1) := by decide +kernel
theorem dX4_allow_1 : decode cX4_allow 1 = .ok (.istore_n 2, 1) := by decide +kernel
theorem dX4_allow_2 : decode cX4_allow 2 = .ok (.iload_n 2, 1) := by decide +kernel
theorem dX4_allow_3 : decode cX4_allow 3 = .ok (.aload_n 0, 1) := by decide +kernel
theorem dX4_allow_4 : decode cX4_allow 4 = .ok (.getfield 12, 3) := by decide +kernel
theorem dX4_allow_7 : decode cX4_allow 7 = .ok (.getfield 57, 3) := by decide +kernel
theorem dX4_allow_10 : decode cX4_allow 10 = .ok (.if_icmp .ge 26, 3) := by decide +kernel
theorem dX4_allow_13 : decode cX4_allow 13 = .ok (.aload_n 0, 1) := by decide +kernel
theorem dX4_allow_14 : decode cX4_allow 14 = .ok (.getfield 18, 3) := by decide +kernel
theorem dX4_allow_17 : decode cX4_allow 17 = .ok (.iload_n 2, 1) := by decide +kernel
theorem dX4_allow_18 : decode cX4_allow 18 = .ok (.aload_n 0, 1) := by decide +kernel
theorem dX4_allow_19 : decode cX4_allow 19 = .ok (.getfield 12, 3) := by decide +kernel
theorem dX4_allow_22 : decode cX4_allow 22 = .ok (.getfield 60, 3) := by decide +kernel
theorem dX4_allow_25 : decode cX4_allow 25 = .ok (.iload_n 2, 1) := by decide +kernel
theorem dX4_allow_26 : decode cX4_allow 26 = .ok (.iaload, 1) := by decide +kernel
theorem dX4_allow_27 : decode cX4_allow 27 = .ok (.iload_n 1, 1) := by decide +kernel
theorem dX4_allow_28 : decode cX4_allow 28 = .ok (.iand, 1) := by decide +kernel
theorem dX4_allow_29 : decode cX4_allow 29 = .ok (.iastore, 1) := by decide +kernel
theorem dX4_allow_30 : decode cX4_allow 30 = .ok (.iinc 2 1, 3) := by decide +kernel
theorem dX4_allow_33 : decode cX4_allow 33 = .ok (.goto (-31), 3) := by decide +kernel
theorem dX4_allow_36 : decode cX4_allow 36 = .ok (.return_, 1) := by decide +kernel
theorem dX4_solutions_0 : decode cX4_solutions 0 = .ok (.aload_n 0, 1) := by decide +kernel
theorem dX4_solutions_1 : decode cX4_solutions 1 = .ok (.getfield 18, 3) := by decide +kernel
theorem dX4_solutions_4 : decode cX4_solutions 4 = .ok (.iconst 0, 1) := by decide +kernel
theorem dX4_solutions_5 : decode cX4_solutions 5 = .ok (.aload_n 0, 1) := by decide +kernel
theorem dX4_solutions_6 : decode cX4_solutions 6 = .ok (.getfield 24, 3) := by decide +kernel
theorem dX4_solutions_9 : decode cX4_solutions 9 = .ok (.iconst 0, 1) := by decide +kernel
theorem dX4_solutions_10 : decode cX4_solutions 10 = .ok (.aaload, 1) := by decide +kernel
theorem dX4_solutions_11 : decode cX4_solutions 11 = .ok (.iconst 0, 1) := by decide +kernel
theorem dX4_solutions_12 : decode cX4_solutions 12 = .ok (.bipush 12, 2) := by decide +kernel
theorem dX4_solutions_14 : decode cX4_solutions 14 = .ok (.invokestatic 63, 3) := by decide +kernel
theorem dX4_solutions_17 : decode cX4_solutions 17 = .ok (.aload_n 0, 1) := by decide +kernel
theorem dX4_solutions_18 : decode cX4_solutions 18 = .ok (.iconst 0, 1) := by decide +kernel
theorem dX4_solutions_19 : decode cX4_solutions 19 = .ok (.iload_n 1, 1) := by decide +kernel
theorem dX4_solutions_20 : decode cX4_solutions 20 = .ok (.iload_n 2, 1) := by decide +kernel
theorem dX4_solutions_21 : decode cX4_solutions 21 = .ok (.invokestatic 69, 3) := by decide +kernel
theorem dX4_solutions_24 : decode cX4_solutions 24 = .ok (.ireturn, 1) := by decide +kernel
theorem dX4_settle_0 : decode cX4_settle 0 = .ok (.aload_n 0, 1) := by decide +kernel
theorem dX4_settle_1 : decode cX4_settle 1 = .ok (.aload_n 0, 1) := by decide +kernel
theorem dX4_settle_2 : decode cX4_settle 2 = .ok (.getfield 12, 3) := by decide +kernel
theorem dX4_settle_5 : decode cX4_settle 5 = .ok (.getfield 46, 3) := by decide +kernel
theorem dX4_settle_8 : decode cX4_settle 8 = .ok (.invokevirtual 49, 3) := by decide +kernel
theorem dX4_settle_11 : decode cX4_settle 11 = .ok (.iload_n 2, 1) := by decide +kernel
theorem dX4_settle_12 : decode cX4_settle 12 = .ok (.ifCond .eq 72, 3) := by decide +kernel
theorem dX4_settle_15 : decode cX4_settle 15 = .ok (.iconst 0, 1) := by decide +kernel
theorem dX4_settle_16 : decode cX4_settle 16 = .ok (.istore_n 3, 1) := by decide +kernel
theorem dX4_settle_17 : decode cX4_settle 17 = .ok (.iload_n 3, 1) := by decide +kernel
theorem dX4_settle_18 : decode cX4_settle 18 = .ok (.aload_n 0, 1) := by decide +kernel
theorem dX4_settle_19 : decode cX4_settle 19 = .ok (.getfield 12, 3) := by decide +kernel
theorem dX4_settle_22 : decode cX4_settle 22 = .ok (.getfield 57, 3) := by decide +kernel
theorem dX4_settle_25 : decode cX4_settle 25 = .ok (.if_icmp .ge 59, 3) := by decide +kernel
theorem dX4_settle_28 : decode cX4_settle 28 = .ok (.aload_n 0, 1) := by decide +kernel
theorem dX4_settle_29 : decode cX4_settle 29 = .ok (.getfield 12, 3) := by decide +kernel
theorem dX4_settle_32 : decode cX4_settle 32 = .ok (.getfield 73, 3) := by decide +kernel
theorem dX4_settle_35 : decode cX4_settle 35 = .ok (.iload_n 3, 1) := by decide +kernel
theorem dX4_settle_36 : decode cX4_settle 36 = .ok (.iaload, 1) := by decide +kernel
theorem dX4_settle_37 : decode cX4_settle 37 = .ok (.istore 4, 2) := by decide +kernel
theorem dX4_settle_39 : decode cX4_settle 39 = .ok (.iload_n 1, 1) := by decide +kernel
theorem dX4_settle_40 : decode cX4_settle 40 = .ok (.iload_n 3, 1) := by decide +kernel
theorem dX4_settle_41 : decode cX4_settle 41 = .ok (.invokestatic 76, 3) := by decide +kernel
theorem dX4_settle_44 : decode cX4_settle 44 = .ok (.ifCond .eq 34, 3) := by decide +kernel
theorem dX4_settle_47 : decode cX4_settle 47 = .ok (.iload 4, 2) := by decide +kernel
theorem dX4_settle_49 : decode cX4_settle 49 = .ok (.iconst (-1), 1) := by decide +kernel
theorem dX4_settle_50 : decode cX4_settle 50 = .ok (.if_icmp .eq 28, 3) := by decide +kernel
theorem dX4_settle_53 : decode cX4_settle 53 = .ok (.aload_n 0, 1) := by decide +kernel
theorem dX4_settle_54 : decode cX4_settle 54 = .ok (.getfield 18, 3) := by decide +kernel
theorem dX4_settle_57 : decode cX4_settle 57 = .ok (.iload_n 3, 1) := by decide +kernel
theorem dX4_settle_58 : decode cX4_settle 58 = .ok (.iaload, 1) := by decide +kernel
theorem dX4_settle_59 : decode cX4_settle 59 = .ok (.iload 4, 2) := by decide +kernel
theorem dX4_settle_61 : decode cX4_settle 61 = .ok (.invokestatic 76, 3) := by decide +kernel
theorem dX4_settle_64 : decode cX4_settle 64 = .ok (.ifCond .eq 14, 3) := by decide +kernel
theorem dX4_settle_67 : decode cX4_settle 67 = .ok (.aload_n 0, 1) := by decide +kernel
theorem dX4_settle_68 : decode cX4_settle 68 = .ok (.iload_n 3, 1) := by decide +kernel
theorem dX4_settle_69 : decode cX4_settle 69 = .ok (.iconst 1, 1) := by decide +kernel
theorem dX4_settle_70 : decode cX4_settle 70 = .ok (.iload 4, 2) := by decide +kernel
theorem dX4_settle_72 : decode cX4_settle 72 = .ok (.ishl, 1) := by decide +kernel
theorem dX4_settle_73 : decode cX4_settle 73 = .ok (.iload_n 1, 1) := by decide +kernel
theorem dX4_settle_74 : decode cX4_settle 74 = .ok (.invokevirtual 80, 3) := by decide +kernel
theorem dX4_settle_77 : decode cX4_settle 77 = .ok (.pop, 1) := by decide +kernel
theorem dX4_settle_78 : decode cX4_settle 78 = .ok (.iinc 3 1, 3) := by decide +kernel
theorem dX4_settle_81 : decode cX4_settle 81 = .ok (.goto (-64), 3) := by decide +kernel
theorem dX4_settle_84 : decode cX4_settle 84 = .ok (.iconst 0, 1) := by decide +kernel
theorem dX4_settle_85 : decode cX4_settle 85 = .ok (.istore_n 3, 1) := by decide +kernel
theorem dX4_settle_86 : decode cX4_settle 86 = .ok (.iload_n 3, 1) := by decide +kernel
theorem dX4_settle_87 : decode cX4_settle 87 = .ok (.aload_n 0, 1) := by decide +kernel
theorem dX4_settle_88 : decode cX4_settle 88 = .ok (.getfield 12, 3) := by decide +kernel
theorem dX4_settle_91 : decode cX4_settle 91 = .ok (.getfield 57, 3) := by decide +kernel
theorem dX4_settle_94 : decode cX4_settle 94 = .ok (.if_icmp .ge 83, 3) := by decide +kernel
theorem dX4_settle_97 : decode cX4_settle 97 = .ok (.iload_n 1, 1) := by decide +kernel
theorem dX4_settle_98 : decode cX4_settle 98 = .ok (.iload_n 3, 1) := by decide +kernel
theorem dX4_settle_99 : decode cX4_settle 99 = .ok (.invokestatic 76, 3) := by decide +kernel
theorem dX4_settle_102 : decode cX4_settle 102 = .ok (.ifCond .ne 7, 3) := by decide +kernel
theorem dX4_settle_105 : decode cX4_settle 105 = .ok (.iconst 1, 1) := by decide +kernel
theorem dX4_settle_106 : decode cX4_settle 106 = .ok (.goto 4, 3) := by decide +kernel
theorem dX4_settle_109 : decode cX4_settle 109 = .ok (.iconst 0, 1) := by decide +kernel
theorem dX4_settle_110 : decode cX4_settle 110 = .ok (.istore 4, 2) := by decide +kernel
theorem dX4_settle_112 : decode cX4_settle 112 = .ok (.aload_n 0, 1) := by decide +kernel
theorem dX4_settle_113 : decode cX4_settle 113 = .ok (.getfield 18, 3) := by decide +kernel
theorem dX4_settle_116 : decode cX4_settle 116 = .ok (.iload_n 3, 1) := by decide +kernel
theorem dX4_settle_117 : decode cX4_settle 117 = .ok (.iaload, 1) := by decide +kernel
theorem dX4_settle_118 : decode cX4_settle 118 = .ok (.istore 5, 2) := by decide +kernel
theorem dX4_settle_120 : decode cX4_settle 120 = .ok (.iconst 0, 1) := by decide +kernel
theorem dX4_settle_121 : decode cX4_settle 121 = .ok (.istore 6, 2) := by decide +kernel
theorem dX4_settle_123 : decode cX4_settle 123 = .ok (.iload 6, 2) := by decide +kernel
theorem dX4_settle_125 : decode cX4_settle 125 = .ok (.bipush 8, 2) := by decide +kernel
theorem dX4_settle_127 : decode cX4_settle 127 = .ok (.if_icmp .ge 44, 3) := by decide +kernel
theorem dX4_settle_130 : decode cX4_settle 130 = .ok (.iload 4, 2) := by decide +kernel
theorem dX4_settle_132 : decode cX4_settle 132 = .ok (.ifCond .ne 39, 3) := by decide +kernel
theorem dX4_settle_135 : decode cX4_settle 135 = .ok (.iload 5, 2) := by decide +kernel
theorem dX4_settle_137 : decode cX4_settle 137 = .ok (.iload 6, 2) := by decide +kernel
theorem dX4_settle_139 : decode cX4_settle 139 = .ok (.invokestatic 76, 3) := by decide +kernel
theorem dX4_settle_142 : decode cX4_settle 142 = .ok (.ifCond .eq 20, 3) := by decide +kernel
theorem dX4_settle_145 : decode cX4_settle 145 = .ok (.aload_n 0, 1) := by decide +kernel
theorem dX4_settle_146 : decode cX4_settle 146 = .ok (.iload_n 3, 1) := by decide +kernel
theorem dX4_settle_147 : decode cX4_settle 147 = .ok (.iconst 1, 1) := by decide +kernel
theorem dX4_settle_148 : decode cX4_settle 148 = .ok (.iload 6, 2) := by decide +kernel
theorem dX4_settle_150 : decode cX4_settle 150 = .ok (.ishl, 1) := by decide +kernel
theorem dX4_settle_151 : decode cX4_settle 151 = .ok (.iload_n 1, 1) := by decide +kernel
theorem dX4_settle_152 : decode cX4_settle 152 = .ok (.invokevirtual 80, 3) := by decide +kernel
theorem dX4_settle_155 : decode cX4_settle 155 = .ok (.ifCond .eq 7, 3) := by decide +kernel
theorem dX4_settle_158 : decode cX4_settle 158 = .ok (.iconst 1, 1) := by decide +kernel
theorem dX4_settle_159 : decode cX4_settle 159 = .ok (.goto 4, 3) := by decide +kernel
theorem dX4_settle_162 : decode cX4_settle 162 = .ok (.iconst 0, 1) := by decide +kernel
theorem dX4_settle_163 : decode cX4_settle 163 = .ok (.istore 4, 2) := by decide +kernel
theorem dX4_settle_165 : decode cX4_settle 165 = .ok (.iinc 6 1, 3) := by decide +kernel
theorem dX4_settle_168 : decode cX4_settle 168 = .ok (.goto (-45), 3) := by decide +kernel
theorem dX4_settle_171 : decode cX4_settle 171 = .ok (.iinc 3 1, 3) := by decide +kernel
theorem dX4_settle_174 : decode cX4_settle 174 = .ok (.goto (-88), 3) := by decide +kernel
theorem dX4_settle_177 : decode cX4_settle 177 = .ok (.return_, 1) := by decide +kernel
theorem dX4_restrict_0 : decode cX4_restrict 0 = .ok (.aload_n 0, 1) := by decide +kernel
theorem dX4_restrict_1 : decode cX4_restrict 1 = .ok (.getfield 18, 3) := by decide +kernel
theorem dX4_restrict_4 : decode cX4_restrict 4 = .ok (.iload_n 1, 1) := by decide +kernel
theorem dX4_restrict_5 : decode cX4_restrict 5 = .ok (.iaload, 1) := by decide +kernel
theorem dX4_restrict_6 : decode cX4_restrict 6 = .ok (.istore 4, 2) := by decide +kernel
theorem dX4_restrict_8 : decode cX4_restrict 8 = .ok (.aload_n 0, 1) := by decide +kernel
theorem dX4_restrict_9 : decode cX4_restrict 9 = .ok (.getfield 18, 3) := by decide +kernel
theorem dX4_restrict_12 : decode cX4_restrict 12 = .ok (.iload_n 1, 1) := by decide +kernel
theorem dX4_restrict_13 : decode cX4_restrict 13 = .ok (.iload_n 2, 1) := by decide +kernel
theorem dX4_restrict_14 : decode cX4_restrict 14 = .ok (.iastore, 1) := by decide +kernel
theorem dX4_restrict_15 : decode cX4_restrict 15 = .ok (.aload_n 0, 1) := by decide +kernel
theorem dX4_restrict_16 : decode cX4_restrict 16 = .ok (.iload_n 3, 1) := by decide +kernel
theorem dX4_restrict_17 : decode cX4_restrict 17 = .ok (.iconst 1, 1) := by decide +kernel
theorem dX4_restrict_18 : decode cX4_restrict 18 = .ok (.invokevirtual 53, 3) := by decide +kernel
theorem dX4_restrict_21 : decode cX4_restrict 21 = .ok (.ifCond .ne 13, 3) := by decide +kernel
theorem dX4_restrict_24 : decode cX4_restrict 24 = .ok (.aload_n 0, 1) := by decide +kernel
theorem dX4_restrict_25 : decode cX4_restrict 25 = .ok (.getfield 18, 3) := by decide +kernel
theorem dX4_restrict_28 : decode cX4_restrict 28 = .ok (.iload_n 1, 1) := by decide +kernel
theorem dX4_restrict_29 : decode cX4_restrict 29 = .ok (.iload 4, 2) := by decide +kernel
theorem dX4_restrict_31 : decode cX4_restrict 31 = .ok (.iastore, 1) := by decide +kernel
theorem dX4_restrict_32 : decode cX4_restrict 32 = .ok (.iconst 0, 1) := by decide +kernel
theorem dX4_restrict_33 : decode cX4_restrict 33 = .ok (.ireturn, 1) := by decide +kernel
theorem dX4_restrict_34 : decode cX4_restrict 34 = .ok (.iconst 1, 1) := by decide +kernel
theorem dX4_restrict_35 : decode cX4_restrict 35 = .ok (.ireturn, 1) := by decide +kernel
theorem dX4_keep_0 : decode cX4_keep 0 = .ok (.iconst 0, 1) := by decide +kernel
theorem dX4_keep_1 : decode cX4_keep 1 = .ok (.istore_n 2, 1) := by decide +kernel
theorem dX4_keep_2 : decode cX4_keep 2 = .ok (.iconst 0, 1) := by decide +kernel
theorem dX4_keep_3 : decode cX4_keep 3 = .ok (.istore_n 3, 1) := by decide +kernel
theorem dX4_keep_4 : decode cX4_keep 4 = .ok (.iload_n 3, 1) := by decide +kernel
theorem dX4_keep_5 : decode cX4_keep 5 = .ok (.aload_n 0, 1) := by decide +kernel
theorem dX4_keep_6 : decode cX4_keep 6 = .ok (.getfield 12, 3) := by decide +kernel
theorem dX4_keep_9 : decode cX4_keep 9 = .ok (.getfield 57, 3) := by decide +kernel
theorem dX4_keep_12 : decode cX4_keep 12 = .ok (.if_icmp .ge 68, 3) := by decide +kernel
theorem dX4_keep_15 : decode cX4_keep 15 = .ok (.iload_n 1, 1) := by decide +kernel
theorem dX4_keep_16 : decode cX4_keep 16 = .ok (.iload_n 3, 1) := by decide +kernel
theorem dX4_keep_17 : decode cX4_keep 17 = .ok (.invokestatic 76, 3) := by decide +kernel
theorem dX4_keep_20 : decode cX4_keep 20 = .ok (.ifCond .eq 17, 3) := by decide +kernel
theorem dX4_keep_23 : decode cX4_keep 23 = .ok (.aload_n 0, 1) := by decide +kernel
theorem dX4_keep_24 : decode cX4_keep 24 = .ok (.getfield 18, 3) := by decide +kernel
theorem dX4_keep_27 : decode cX4_keep 27 = .ok (.iload_n 3, 1) := by decide +kernel
theorem dX4_keep_28 : decode cX4_keep 28 = .ok (.iaload, 1) := by decide +kernel
theorem dX4_keep_29 : decode cX4_keep 29 = .ok (.iconst 1, 1) := by decide +kernel
theorem dX4_keep_30 : decode cX4_keep 30 = .ok (.isub, 1) := by decide +kernel
theorem dX4_keep_31 : decode cX4_keep 31 = .ok (.invokestatic 84, 3) := by decide +kernel
theorem dX4_keep_34 : decode cX4_keep 34 = .ok (.goto 4, 3) := by decide +kernel
theorem dX4_keep_37 : decode cX4_keep 37 = .ok (.iconst (-1), 1) := by decide +kernel
theorem dX4_keep_38 : decode cX4_keep 38 = .ok (.istore 4, 2) := by decide +kernel
theorem dX4_keep_40 : decode cX4_keep 40 = .ok (.iload 4, 2) := by decide +kernel
theorem dX4_keep_42 : decode cX4_keep 42 = .ok (.iconst (-1), 1) := by decide +kernel
theorem dX4_keep_43 : decode cX4_keep 43 = .ok (.if_icmp .eq 20, 3) := by decide +kernel
theorem dX4_keep_46 : decode cX4_keep 46 = .ok (.iload 4, 2) := by decide +kernel
theorem dX4_keep_48 : decode cX4_keep 48 = .ok (.aload_n 0, 1) := by decide +kernel
theorem dX4_keep_49 : decode cX4_keep 49 = .ok (.getfield 12, 3) := by decide +kernel
theorem dX4_keep_52 : decode cX4_keep 52 = .ok (.getfield 73, 3) := by decide +kernel
theorem dX4_keep_55 : decode cX4_keep 55 = .ok (.iload_n 3, 1) := by decide +kernel
theorem dX4_keep_56 : decode cX4_keep 56 = .ok (.iaload, 1) := by decide +kernel
theorem dX4_keep_57 : decode cX4_keep 57 = .ok (.if_icmp .eq 6, 3) := by decide +kernel
theorem dX4_keep_60 : decode cX4_keep 60 = .ok (.iinc 2 1, 3) := by decide +kernel
theorem dX4_keep_63 : decode cX4_keep 63 = .ok (.aload_n 0, 1) := by decide +kernel
theorem dX4_keep_64 : decode cX4_keep 64 = .ok (.getfield 12, 3) := by decide +kernel
theorem dX4_keep_67 : decode cX4_keep 67 = .ok (.getfield 73, 3) := by decide +kernel
theorem dX4_keep_70 : decode cX4_keep 70 = .ok (.iload_n 3, 1) := by decide +kernel
theorem dX4_keep_71 : decode cX4_keep 71 = .ok (.iload 4, 2) := by decide +kernel
theorem dX4_keep_73 : decode cX4_keep 73 = .ok (.iastore, 1) := by decide +kernel
theorem dX4_keep_74 : decode cX4_keep 74 = .ok (.iinc 3 1, 3) := by decide +kernel
theorem dX4_keep_77 : decode cX4_keep 77 = .ok (.goto (-73), 3) := by decide +kernel
theorem dX4_keep_80 : decode cX4_keep 80 = .ok (.iload_n 2, 1) := by decide +kernel
theorem dX4_keep_81 : decode cX4_keep 81 = .ok (.ireturn, 1) := by decide +kernel
theorem dX4_fewestChannels_0 : decode cX4_fewestChannels 0 = .ok (.iconst 0, 1) := by decide +kernel
theorem dX4_fewestChannels_1 : decode cX4_fewestChannels 1 = .ok (.istore_n 2, 1) := by decide +kernel
theorem dX4_fewestChannels_2 : decode cX4_fewestChannels 2 = .ok (.iload_n 2, 1) := by decide +kernel
theorem dX4_fewestChannels_3 : decode cX4_fewestChannels 3 = .ok (.bipush 8, 2) := by decide +kernel
theorem dX4_fewestChannels_5 : decode cX4_fewestChannels 5 = .ok (.if_icmp .ge 62, 3) := by decide +kernel
theorem dX4_fewestChannels_8 : decode cX4_fewestChannels 8 = .ok (.iconst 0, 1) := by decide +kernel
theorem dX4_fewestChannels_9 : decode cX4_fewestChannels 9 = .ok (.istore_n 3, 1) := by decide +kernel
theorem dX4_fewestChannels_10 : decode cX4_fewestChannels 10 = .ok (.iload_n 3, 1) := by decide +kernel
theorem dX4_fewestChannels_11 : decode cX4_fewestChannels 11 = .ok (.sipush 255, 3) := by decide +kernel
theorem dX4_fewestChannels_14 : decode cX4_fewestChannels 14 = .ok (.if_icmp .gt 47, 3) := by decide +kernel
theorem dX4_fewestChannels_17 : decode cX4_fewestChannels 17 = .ok (.iload_n 3, 1) := by decide +kernel
theorem dX4_fewestChannels_18 : decode cX4_fewestChannels 18 = .ok (.invokestatic 84, 3) := by decide +kernel
theorem dX4_fewestChannels_21 : decode cX4_fewestChannels 21 = .ok (.iload_n 2, 1) := by decide +kernel
theorem dX4_fewestChannels_22 : decode cX4_fewestChannels 22 = .ok (.if_icmp .ne 33, 3) := by decide +kernel
theorem dX4_fewestChannels_25 : decode cX4_fewestChannels 25 = .ok (.iload_n 3, 1) := by decide +kernel
theorem dX4_fewestChannels_26 : decode cX4_fewestChannels 26 = .ok (.aload_n 0, 1) := by decide +kernel
theorem dX4_fewestChannels_27 : decode cX4_fewestChannels 27 = .ok (.getfield 12, 3) := by decide +kernel
theorem dX4_fewestChannels_30 : decode cX4_fewestChannels 30 = .ok (.getfield 46, 3) := by decide +kernel
theorem dX4_fewestChannels_33 : decode cX4_fewestChannels 33 = .ok (.iconst (-1), 1) := by decide +kernel
theorem dX4_fewestChannels_34 : decode cX4_fewestChannels 34 = .ok (.ixor, 1) := by decide +kernel
theorem dX4_fewestChannels_35 : decode cX4_fewestChannels 35 = .ok (.iand, 1) := by decide +kernel
theorem dX4_fewestChannels_36 : decode cX4_fewestChannels 36 = .ok (.ifCond .ne 19, 3) := by decide +kernel
theorem dX4_fewestChannels_39 : decode cX4_fewestChannels 39 = .ok (.aload_n 0, 1) := by decide +kernel
theorem dX4_fewestChannels_40 : decode cX4_fewestChannels 40 = .ok (.iload_n 3, 1) := by decide +kernel
theorem dX4_fewestChannels_41 : decode cX4_fewestChannels 41 = .ok (.invokevirtual 49, 3) := by decide +kernel
theorem dX4_fewestChannels_44 : decode cX4_fewestChannels 44 = .ok (.aload_n 0, 1) := by decide +kernel
theorem dX4_fewestChannels_45 : decode cX4_fewestChannels 45 = .ok (.iload_n 1, 1) := by decide +kernel
theorem dX4_fewestChannels_46 : decode cX4_fewestChannels 46 = .ok (.iconst 1, 1) := by decide +kernel
theorem dX4_fewestChannels_47 : decode cX4_fewestChannels 47 = .ok (.invokevirtual 53, 3) := by decide +kernel
theorem dX4_fewestChannels_50 : decode cX4_fewestChannels 50 = .ok (.ifCond .le 5, 3) := by decide +kernel
theorem dX4_fewestChannels_53 : decode cX4_fewestChannels 53 = .ok (.iload_n 2, 1) := by decide +kernel
theorem dX4_fewestChannels_54 : decode cX4_fewestChannels 54 = .ok (.ireturn, 1) := by decide +kernel
theorem dX4_fewestChannels_55 : decode cX4_fewestChannels 55 = .ok (.iinc 3 1, 3) := by decide +kernel
theorem dX4_fewestChannels_58 : decode cX4_fewestChannels 58 = .ok (.goto (-48), 3) := by decide +kernel
theorem dX4_fewestChannels_61 : decode cX4_fewestChannels 61 = .ok (.iinc 2 1, 3) := by decide +kernel
theorem dX4_fewestChannels_64 : decode cX4_fewestChannels 64 = .ok (.goto (-62), 3) := by decide +kernel
theorem dX4_fewestChannels_67 : decode cX4_fewestChannels 67 = .ok (.bipush 8, 2) := by decide +kernel
theorem dX4_fewestChannels_69 : decode cX4_fewestChannels 69 = .ok (.ireturn, 1) := by decide +kernel
theorem dX4_smallestReason_0 : decode cX4_smallestReason 0 = .ok (.iload_n 2, 1) := by decide +kernel
theorem dX4_smallestReason_1 : decode cX4_smallestReason 1 = .ok (.iconst 1, 1) := by decide +kernel
theorem dX4_smallestReason_2 : decode cX4_smallestReason 2 = .ok (.iload_n 1, 1) := by decide +kernel
theorem dX4_smallestReason_3 : decode cX4_smallestReason 3 = .ok (.ishl, 1) := by decide +kernel
theorem dX4_smallestReason_4 : decode cX4_smallestReason 4 = .ok (.iconst (-1), 1) := by decide +kernel
theorem dX4_smallestReason_5 : decode cX4_smallestReason 5 = .ok (.ixor, 1) := by decide +kernel
theorem dX4_smallestReason_6 : decode cX4_smallestReason 6 = .ok (.iand, 1) := by decide +kernel
theorem dX4_smallestReason_7 : decode cX4_smallestReason 7 = .ok (.istore_n 3, 1) := by decide +kernel
theorem dX4_smallestReason_8 : decode cX4_smallestReason 8 = .ok (.iload_n 3, 1) := by decide +kernel
theorem dX4_smallestReason_9 : decode cX4_smallestReason 9 = .ok (.invokestatic 84, 3) := by decide +kernel
theorem dX4_smallestReason_12 : decode cX4_smallestReason 12 = .ok (.istore 4, 2) := by decide +kernel
theorem dX4_smallestReason_14 : decode cX4_smallestReason 14 = .ok (.iconst 0, 1) := by decide +kernel
theorem dX4_smallestReason_15 : decode cX4_smallestReason 15 = .ok (.istore 5, 2) := by decide +kernel
theorem dX4_smallestReason_17 : decode cX4_smallestReason 17 = .ok (.iload 5, 2) := by decide +kernel
theorem dX4_smallestReason_19 : decode cX4_smallestReason 19 = .ok (.iload 4, 2) := by decide +kernel
theorem dX4_smallestReason_21 : decode cX4_smallestReason 21 = .ok (.if_icmp .ge 64, 3) := by decide +kernel
theorem dX4_smallestReason_24 : decode cX4_smallestReason 24 = .ok (.iconst 0, 1) := by decide +kernel
theorem dX4_smallestReason_25 : decode cX4_smallestReason 25 = .ok (.istore 6, 2) := by decide +kernel
theorem dX4_smallestReason_27 : decode cX4_smallestReason 27 = .ok (.iconst 0, 1) := by decide +kernel
theorem dX4_smallestReason_28 : decode cX4_smallestReason 28 = .ok (.istore 7, 2) := by decide +kernel
theorem dX4_smallestReason_30 : decode cX4_smallestReason 30 = .ok (.iload 7, 2) := by decide +kernel
theorem dX4_smallestReason_32 : decode cX4_smallestReason 32 = .ok (.iconst 1, 1) := by decide +kernel
theorem dX4_smallestReason_33 : decode cX4_smallestReason 33 = .ok (.iload 4, 2) := by decide +kernel
theorem dX4_smallestReason_35 : decode cX4_smallestReason 35 = .ok (.ishl, 1) := by decide +kernel
theorem dX4_smallestReason_36 : decode cX4_smallestReason 36 = .ok (.if_icmp .ge 43, 3) := by decide +kernel
theorem dX4_smallestReason_39 : decode cX4_smallestReason 39 = .ok (.iload 6, 2) := by decide +kernel
theorem dX4_smallestReason_41 : decode cX4_smallestReason 41 = .ok (.invokestatic 84, 3) := by decide +kernel
theorem dX4_smallestReason_44 : decode cX4_smallestReason 44 = .ok (.iload 5, 2) := by decide +kernel
theorem dX4_smallestReason_46 : decode cX4_smallestReason 46 = .ok (.if_icmp .ne 19, 3) := by decide +kernel
theorem dX4_smallestReason_49 : decode cX4_smallestReason 49 = .ok (.aload_n 0, 1) := by decide +kernel
theorem dX4_smallestReason_50 : decode cX4_smallestReason 50 = .ok (.iload 6, 2) := by decide +kernel
theorem dX4_smallestReason_52 : decode cX4_smallestReason 52 = .ok (.iconst 1, 1) := by decide +kernel
theorem dX4_smallestReason_53 : decode cX4_smallestReason 53 = .ok (.iload_n 1, 1) := by decide +kernel
theorem dX4_smallestReason_54 : decode cX4_smallestReason 54 = .ok (.ishl, 1) := by decide +kernel
theorem dX4_smallestReason_55 : decode cX4_smallestReason 55 = .ok (.ior, 1) := by decide +kernel
theorem dX4_smallestReason_56 : decode cX4_smallestReason 56 = .ok (.invokevirtual 90, 3) := by decide +kernel
theorem dX4_smallestReason_59 : decode cX4_smallestReason 59 = .ok (.ifCond .ne 6, 3) := by decide +kernel
theorem dX4_smallestReason_62 : decode cX4_smallestReason 62 = .ok (.iload 6, 2) := by decide +kernel
theorem dX4_smallestReason_64 : decode cX4_smallestReason 64 = .ok (.ireturn, 1) := by decide +kernel
theorem dX4_smallestReason_65 : decode cX4_smallestReason 65 = .ok (.iload 6, 2) := by decide +kernel
theorem dX4_smallestReason_67 : decode cX4_smallestReason 67 = .ok (.iload_n 3, 1) := by decide +kernel
theorem dX4_smallestReason_68 : decode cX4_smallestReason 68 = .ok (.isub, 1) := by decide +kernel
theorem dX4_smallestReason_69 : decode cX4_smallestReason 69 = .ok (.iload_n 3, 1) := by decide +kernel
theorem dX4_smallestReason_70 : decode cX4_smallestReason 70 = .ok (.iand, 1) := by decide +kernel
theorem dX4_smallestReason_71 : decode cX4_smallestReason 71 = .ok (.istore 6, 2) := by decide +kernel
theorem dX4_smallestReason_73 : decode cX4_smallestReason 73 = .ok (.iinc 7 1, 3) := by decide +kernel
theorem dX4_smallestReason_76 : decode cX4_smallestReason 76 = .ok (.goto (-46), 3) := by decide +kernel
theorem dX4_smallestReason_79 : decode cX4_smallestReason 79 = .ok (.iinc 5 1, 3) := by decide +kernel
theorem dX4_smallestReason_82 : decode cX4_smallestReason 82 = .ok (.goto (-65), 3) := by decide +kernel
theorem dX4_smallestReason_85 : decode cX4_smallestReason 85 = .ok (.iload_n 3, 1) := by decide +kernel
theorem dX4_smallestReason_86 : decode cX4_smallestReason 86 = .ok (.ireturn, 1) := by decide +kernel
theorem dX4_search_0 : decode cX4_search 0 = .ok (.iload_n 1, 1) := by decide +kernel
theorem dX4_search_1 : decode cX4_search 1 = .ok (.bipush 12, 2) := by decide +kernel
theorem dX4_search_3 : decode cX4_search 3 = .ok (.if_icmp .lt 13, 3) := by decide +kernel
theorem dX4_search_6 : decode cX4_search 6 = .ok (.iload_n 2, 1) := by decide +kernel
theorem dX4_search_7 : decode cX4_search 7 = .ok (.ifCond .ne 7, 3) := by decide +kernel
theorem dX4_search_10 : decode cX4_search 10 = .ok (.iconst 1, 1) := by decide +kernel
theorem dX4_search_11 : decode cX4_search 11 = .ok (.goto 4, 3) := by decide +kernel
theorem dX4_search_14 : decode cX4_search 14 = .ok (.iconst 0, 1) := by decide +kernel
theorem dX4_search_15 : decode cX4_search 15 = .ok (.ireturn, 1) := by decide +kernel
theorem dX4_search_16 : decode cX4_search 16 = .ok (.iload_n 3, 1) := by decide +kernel
theorem dX4_search_17 : decode cX4_search 17 = .ok (.iconst 1, 1) := by decide +kernel
theorem dX4_search_18 : decode cX4_search 18 = .ok (.if_icmp .ne 12, 3) := by decide +kernel
theorem dX4_search_21 : decode cX4_search 21 = .ok (.aload_n 0, 1) := by decide +kernel
theorem dX4_search_22 : decode cX4_search 22 = .ok (.iload_n 1, 1) := by decide +kernel
theorem dX4_search_23 : decode cX4_search 23 = .ok (.iload_n 2, 1) := by decide +kernel
theorem dX4_search_24 : decode cX4_search 24 = .ok (.invokevirtual 94, 3) := by decide +kernel
theorem dX4_search_27 : decode cX4_search 27 = .ok (.goto 4, 3) := by decide +kernel
theorem dX4_search_30 : decode cX4_search 30 = .ok (.iload_n 2, 1) := by decide +kernel
theorem dX4_search_31 : decode cX4_search 31 = .ok (.istore 4, 2) := by decide +kernel
theorem dX4_search_33 : decode cX4_search 33 = .ok (.iload 4, 2) := by decide +kernel
theorem dX4_search_35 : decode cX4_search 35 = .ok (.ifCond .ne 5, 3) := by decide +kernel
theorem dX4_search_38 : decode cX4_search 38 = .ok (.iconst 1, 1) := by decide +kernel
theorem dX4_search_39 : decode cX4_search 39 = .ok (.ireturn, 1) := by decide +kernel
theorem dX4_search_40 : decode cX4_search 40 = .ok (.aload_n 0, 1) := by decide +kernel
theorem dX4_search_41 : decode cX4_search 41 = .ok (.iload_n 1, 1) := by decide +kernel
theorem dX4_search_42 : decode cX4_search 42 = .ok (.iload 4, 2) := by decide +kernel
theorem dX4_search_44 : decode cX4_search 44 = .ok (.invokevirtual 97, 3) := by decide +kernel
theorem dX4_search_47 : decode cX4_search 47 = .ok (.istore 5, 2) := by decide +kernel
theorem dX4_search_49 : decode cX4_search 49 = .ok (.aload_n 0, 1) := by decide +kernel
theorem dX4_search_50 : decode cX4_search 50 = .ok (.getfield 24, 3) := by decide +kernel
theorem dX4_search_53 : decode cX4_search 53 = .ok (.iload_n 1, 1) := by decide +kernel
theorem dX4_search_54 : decode cX4_search 54 = .ok (.aaload, 1) := by decide +kernel
theorem dX4_search_55 : decode cX4_search 55 = .ok (.iload 5, 2) := by decide +kernel
theorem dX4_search_57 : decode cX4_search 57 = .ok (.iaload, 1) := by decide +kernel
theorem dX4_search_58 : decode cX4_search 58 = .ok (.istore 6, 2) := by decide +kernel
theorem dX4_search_60 : decode cX4_search 60 = .ok (.iload 4, 2) := by decide +kernel
theorem dX4_search_62 : decode cX4_search 62 = .ok (.iconst 1, 1) := by decide +kernel
theorem dX4_search_63 : decode cX4_search 63 = .ok (.iload 5, 2) := by decide +kernel
theorem dX4_search_65 : decode cX4_search 65 = .ok (.ishl, 1) := by decide +kernel
theorem dX4_search_66 : decode cX4_search 66 = .ok (.if_icmp .ne 13, 3) := by decide +kernel
theorem dX4_search_69 : decode cX4_search 69 = .ok (.iload_n 3, 1) := by decide +kernel
theorem dX4_search_70 : decode cX4_search 70 = .ok (.iload 6, 2) := by decide +kernel
theorem dX4_search_72 : decode cX4_search 72 = .ok (.invokestatic 84, 3) := by decide +kernel
theorem dX4_search_75 : decode cX4_search 75 = .ok (.invokestatic 100, 3) := by decide +kernel
theorem dX4_search_78 : decode cX4_search 78 = .ok (.ireturn, 1) := by decide +kernel
theorem dX4_search_79 : decode cX4_search 79 = .ok (.aload_n 0, 1) := by decide +kernel
theorem dX4_search_80 : decode cX4_search 80 = .ok (.iload_n 1, 1) := by decide +kernel
theorem dX4_search_81 : decode cX4_search 81 = .ok (.iload 4, 2) := by decide +kernel
theorem dX4_search_83 : decode cX4_search 83 = .ok (.invokevirtual 105, 3) := by decide +kernel
theorem dX4_search_86 : decode cX4_search 86 = .ok (.aload_n 0, 1) := by decide +kernel
theorem dX4_search_87 : decode cX4_search 87 = .ok (.getfield 36, 3) := by decide +kernel
theorem dX4_search_90 : decode cX4_search 90 = .ok (.aload_n 0, 1) := by decide +kernel
theorem dX4_search_91 : decode cX4_search 91 = .ok (.getfield 43, 3) := by decide +kernel
theorem dX4_search_94 : decode cX4_search 94 = .ok (.if_icmp .eq 7, 3) := by decide +kernel
theorem dX4_search_97 : decode cX4_search 97 = .ok (.aload_n 0, 1) := by decide +kernel
theorem dX4_search_98 : decode cX4_search 98 = .ok (.invokevirtual 109, 3) := by decide +kernel
theorem dX4_search_101 : decode cX4_search 101 = .ok (.aload_n 0, 1) := by decide +kernel
theorem dX4_search_102 : decode cX4_search 102 = .ok (.iload_n 1, 1) := by decide +kernel
theorem dX4_search_103 : decode cX4_search 103 = .ok (.iload 4, 2) := by decide +kernel
theorem dX4_search_105 : decode cX4_search 105 = .ok (.invokevirtual 112, 3) := by decide +kernel
theorem dX4_search_108 : decode cX4_search 108 = .ok (.ifCond .eq 5, 3) := by decide +kernel
theorem dX4_search_111 : decode cX4_search 111 = .ok (.iconst 0, 1) := by decide +kernel
theorem dX4_search_112 : decode cX4_search 112 = .ok (.ireturn, 1) := by decide +kernel
theorem dX4_search_113 : decode cX4_search 113 = .ok (.aload_n 0, 1) := by decide +kernel
theorem dX4_search_114 : decode cX4_search 114 = .ok (.getfield 12, 3) := by decide +kernel
theorem dX4_search_117 : decode cX4_search 117 = .ok (.iload 4, 2) := by decide +kernel
theorem dX4_search_119 : decode cX4_search 119 = .ok (.invokevirtual 115, 3) := by decide +kernel
theorem dX4_search_122 : decode cX4_search 122 = .ok (.ifCond .ne 7, 3) := by decide +kernel
theorem dX4_search_125 : decode cX4_search 125 = .ok (.iconst 1, 1) := by decide +kernel
theorem dX4_search_126 : decode cX4_search 126 = .ok (.goto 4, 3) := by decide +kernel
theorem dX4_search_129 : decode cX4_search 129 = .ok (.iconst 0, 1) := by decide +kernel
theorem dX4_search_130 : decode cX4_search 130 = .ok (.istore 7, 2) := by decide +kernel
theorem dX4_search_132 : decode cX4_search 132 = .ok (.iconst 0, 1) := by decide +kernel
theorem dX4_search_133 : decode cX4_search 133 = .ok (.istore 8, 2) := by decide +kernel
theorem dX4_search_135 : decode cX4_search 135 = .ok (.iconst 0, 1) := by decide +kernel
theorem dX4_search_136 : decode cX4_search 136 = .ok (.istore 9, 2) := by decide +kernel
theorem dX4_search_138 : decode cX4_search 138 = .ok (.iload 9, 2) := by decide +kernel
theorem dX4_search_140 : decode cX4_search 140 = .ok (.bipush 8, 2) := by decide +kernel
theorem dX4_search_142 : decode cX4_search 142 = .ok (.if_icmp .ge 124, 3) := by decide +kernel
theorem dX4_search_145 : decode cX4_search 145 = .ok (.iload 8, 2) := by decide +kernel
theorem dX4_search_147 : decode cX4_search 147 = .ok (.iload_n 3, 1) := by decide +kernel
theorem dX4_search_148 : decode cX4_search 148 = .ok (.if_icmp .ge 118, 3) := by decide +kernel
theorem dX4_search_151 : decode cX4_search 151 = .ok (.iload 6, 2) := by decide +kernel
theorem dX4_search_153 : decode cX4_search 153 = .ok (.iload 9, 2) := by decide +kernel
theorem dX4_search_155 : decode cX4_search 155 = .ok (.invokestatic 76, 3) := by decide +kernel
theorem dX4_search_158 : decode cX4_search 158 = .ok (.ifCond .eq 102, 3) := by decide +kernel
theorem dX4_search_161 : decode cX4_search 161 = .ok (.iload 7, 2) := by decide +kernel
theorem dX4_search_163 : decode cX4_search 163 = .ok (.ifCond .eq 15, 3) := by decide +kernel
theorem dX4_search_166 : decode cX4_search 166 = .ok (.aload_n 0, 1) := by decide +kernel
theorem dX4_search_167 : decode cX4_search 167 = .ok (.iload 9, 2) := by decide +kernel
theorem dX4_search_169 : decode cX4_search 169 = .ok (.iload 6, 2) := by decide +kernel
theorem dX4_search_171 : decode cX4_search 171 = .ok (.iload_n 1, 1) := by decide +kernel
theorem dX4_search_172 : decode cX4_search 172 = .ok (.invokevirtual 118, 3) := by decide +kernel
theorem dX4_search_175 : decode cX4_search 175 = .ok (.goto 4, 3) := by decide +kernel
theorem dX4_search_178 : decode cX4_search 178 = .ok (.iconst (-1), 1) := by decide +kernel
theorem dX4_search_179 : decode cX4_search 179 = .ok (.istore 10, 2) := by decide +kernel
theorem dX4_search_181 : decode cX4_search 181 = .ok (.iload 10, 2) := by decide +kernel
theorem dX4_search_183 : decode cX4_search 183 = .ok (.iconst (-1), 1) := by decide +kernel
theorem dX4_search_184 : decode cX4_search 184 = .ok (.if_icmp .eq 24, 3) := by decide +kernel
theorem dX4_search_187 : decode cX4_search 187 = .ok (.aload_n 0, 1) := by decide +kernel
theorem dX4_search_188 : decode cX4_search 188 = .ok (.getfield 30, 3) := by decide +kernel
theorem dX4_search_191 : decode cX4_search 191 = .ok (.iload_n 1, 1) := by decide +kernel
theorem dX4_search_192 : decode cX4_search 192 = .ok (.aaload, 1) := by decide +kernel
theorem dX4_search_193 : decode cX4_search 193 = .ok (.iload 9, 2) := by decide +kernel
theorem dX4_search_195 : decode cX4_search 195 = .ok (.aload_n 0, 1) := by decide +kernel
theorem dX4_search_196 : decode cX4_search 196 = .ok (.getfield 30, 3) := by decide +kernel
theorem dX4_search_199 : decode cX4_search 199 = .ok (.iload_n 1, 1) := by decide +kernel
theorem dX4_search_200 : decode cX4_search 200 = .ok (.aaload, 1) := by decide +kernel
theorem dX4_search_201 : decode cX4_search 201 = .ok (.iload 10, 2) := by decide +kernel
theorem dX4_search_203 : decode cX4_search 203 = .ok (.iaload, 1) := by decide +kernel
theorem dX4_search_204 : decode cX4_search 204 = .ok (.iastore, 1) := by decide +kernel
theorem dX4_search_205 : decode cX4_search 205 = .ok (.goto 41, 3) := by decide +kernel
theorem dX4_search_208 : decode cX4_search 208 = .ok (.aload_n 0, 1) := by decide +kernel
theorem dX4_search_209 : decode cX4_search 209 = .ok (.iload 9, 2) := by decide +kernel
theorem dX4_search_211 : decode cX4_search 211 = .ok (.iload 5, 2) := by decide +kernel
theorem dX4_search_213 : decode cX4_search 213 = .ok (.iload_n 1, 1) := by decide +kernel
theorem dX4_search_214 : decode cX4_search 214 = .ok (.invokevirtual 122, 3) := by decide +kernel
theorem dX4_search_217 : decode cX4_search 217 = .ok (.aload_n 0, 1) := by decide +kernel
theorem dX4_search_218 : decode cX4_search 218 = .ok (.getfield 30, 3) := by decide +kernel
theorem dX4_search_221 : decode cX4_search 221 = .ok (.iload_n 1, 1) := by decide +kernel
theorem dX4_search_222 : decode cX4_search 222 = .ok (.aaload, 1) := by decide +kernel
theorem dX4_search_223 : decode cX4_search 223 = .ok (.iload 9, 2) := by decide +kernel
theorem dX4_search_225 : decode cX4_search 225 = .ok (.aload_n 0, 1) := by decide +kernel
theorem dX4_search_226 : decode cX4_search 226 = .ok (.iload_n 1, 1) := by decide +kernel
theorem dX4_search_227 : decode cX4_search 227 = .ok (.iconst 1, 1) := by decide +kernel
theorem dX4_search_228 : decode cX4_search 228 = .ok (.iadd, 1) := by decide +kernel
theorem dX4_search_229 : decode cX4_search 229 = .ok (.iload 4, 2) := by decide +kernel
theorem dX4_search_231 : decode cX4_search 231 = .ok (.iconst 1, 1) := by decide +kernel
theorem dX4_search_232 : decode cX4_search 232 = .ok (.iload 5, 2) := by decide +kernel
theorem dX4_search_234 : decode cX4_search 234 = .ok (.ishl, 1) := by decide +kernel
theorem dX4_search_235 : decode cX4_search 235 = .ok (.iconst (-1), 1) := by decide +kernel
theorem dX4_search_236 : decode cX4_search 236 = .ok (.ixor, 1) := by decide +kernel
theorem dX4_search_237 : decode cX4_search 237 = .ok (.iand, 1) := by decide +kernel
theorem dX4_search_238 : decode cX4_search 238 = .ok (.iload_n 3, 1) := by decide +kernel
theorem dX4_search_239 : decode cX4_search 239 = .ok (.iload 8, 2) := by decide +kernel
theorem dX4_search_241 : decode cX4_search 241 = .ok (.isub, 1) := by decide +kernel
theorem dX4_search_242 : decode cX4_search 242 = .ok (.invokestatic 69, 3) := by decide +kernel
theorem dX4_search_245 : decode cX4_search 245 = .ok (.iastore, 1) := by decide +kernel
theorem dX4_search_246 : decode cX4_search 246 = .ok (.iload 8, 2) := by decide +kernel
theorem dX4_search_248 : decode cX4_search 248 = .ok (.aload_n 0, 1) := by decide +kernel
theorem dX4_search_249 : decode cX4_search 249 = .ok (.getfield 30, 3) := by decide +kernel
theorem dX4_search_252 : decode cX4_search 252 = .ok (.iload_n 1, 1) := by decide +kernel
theorem dX4_search_253 : decode cX4_search 253 = .ok (.aaload, 1) := by decide +kernel
theorem dX4_search_254 : decode cX4_search 254 = .ok (.iload 9, 2) := by decide +kernel
theorem dX4_search_256 : decode cX4_search 256 = .ok (.iaload, 1) := by decide +kernel
theorem dX4_search_257 : decode cX4_search 257 = .ok (.iadd, 1) := by decide +kernel
theorem dX4_search_258 : decode cX4_search 258 = .ok (.istore 8, 2) := by decide +kernel
theorem dX4_search_260 : decode cX4_search 260 = .ok (.iinc 9 1, 3) := by decide +kernel
theorem dX4_search_263 : decode cX4_search 263 = .ok (.goto (-125), 3) := by decide +kernel
theorem dX4_search_266 : decode cX4_search 266 = .ok (.iload 8, 2) := by decide +kernel
theorem dX4_search_268 : decode cX4_search 268 = .ok (.iload_n 3, 1) := by decide +kernel
theorem dX4_search_269 : decode cX4_search 269 = .ok (.invokestatic 100, 3) := by decide +kernel
theorem dX4_search_272 : decode cX4_search 272 = .ok (.ireturn, 1) := by decide +kernel
theorem dX4_withoutEasy_0 : decode cX4_withoutEasy 0 = .ok (.iload_n 2, 1) := by decide +kernel
theorem dX4_withoutEasy_1 : decode cX4_withoutEasy 1 = .ok (.istore_n 3, 1) := by decide +kernel
theorem dX4_withoutEasy_2 : decode cX4_withoutEasy 2 = .ok (.iconst 0, 1) := by decide +kernel
theorem dX4_withoutEasy_3 : decode cX4_withoutEasy 3 = .ok (.istore 4, 2) := by decide +kernel
theorem dX4_withoutEasy_5 : decode cX4_withoutEasy 5 = .ok (.iload 4, 2) := by decide +kernel
theorem dX4_withoutEasy_7 : decode cX4_withoutEasy 7 = .ok (.aload_n 0, 1) := by decide +kernel
theorem dX4_withoutEasy_8 : decode cX4_withoutEasy 8 = .ok (.getfield 12, 3) := by decide +kernel
theorem dX4_withoutEasy_11 : decode cX4_withoutEasy 11 = .ok (.getfield 57, 3) := by decide +kernel
theorem dX4_withoutEasy_14 : decode cX4_withoutEasy 14 = .ok (.if_icmp .ge 79, 3) := by decide +kernel
theorem dX4_withoutEasy_17 : decode cX4_withoutEasy 17 = .ok (.iload_n 3, 1) := by decide +kernel
theorem dX4_withoutEasy_18 : decode cX4_withoutEasy 18 = .ok (.iload 4, 2) := by decide +kernel
theorem dX4_withoutEasy_20 : decode cX4_withoutEasy 20 = .ok (.invokestatic 76, 3) := by decide +kernel
theorem dX4_withoutEasy_23 : decode cX4_withoutEasy 23 = .ok (.ifCond .eq 64, 3) := by decide +kernel
theorem dX4_withoutEasy_26 : decode cX4_withoutEasy 26 = .ok (.aload_n 0, 1) := by decide +kernel
theorem dX4_withoutEasy_27 : decode cX4_withoutEasy 27 = .ok (.getfield 12, 3) := by decide +kernel
theorem dX4_withoutEasy_30 : decode cX4_withoutEasy 30 = .ok (.getfield 126, 3) := by decide +kernel
theorem dX4_withoutEasy_33 : decode cX4_withoutEasy 33 = .ok (.iload 4, 2) := by decide +kernel
theorem dX4_withoutEasy_35 : decode cX4_withoutEasy 35 = .ok (.iaload, 1) := by decide +kernel
theorem dX4_withoutEasy_36 : decode cX4_withoutEasy 36 = .ok (.iload_n 3, 1) := by decide +kernel
theorem dX4_withoutEasy_37 : decode cX4_withoutEasy 37 = .ok (.iand, 1) := by decide +kernel
theorem dX4_withoutEasy_38 : decode cX4_withoutEasy 38 = .ok (.invokestatic 84, 3) := by decide +kernel
theorem dX4_withoutEasy_41 : decode cX4_withoutEasy 41 = .ok (.iconst 2, 1) := by decide +kernel
theorem dX4_withoutEasy_42 : decode cX4_withoutEasy 42 = .ok (.aload_n 0, 1) := by decide +kernel
theorem dX4_withoutEasy_43 : decode cX4_withoutEasy 43 = .ok (.getfield 12, 3) := by decide +kernel
theorem dX4_withoutEasy_46 : decode cX4_withoutEasy 46 = .ok (.getfield 129, 3) := by decide +kernel
theorem dX4_withoutEasy_49 : decode cX4_withoutEasy 49 = .ok (.iload 4, 2) := by decide +kernel
theorem dX4_withoutEasy_51 : decode cX4_withoutEasy 51 = .ok (.iaload, 1) := by decide +kernel
theorem dX4_withoutEasy_52 : decode cX4_withoutEasy 52 = .ok (.iload_n 3, 1) := by decide +kernel
theorem dX4_withoutEasy_53 : decode cX4_withoutEasy 53 = .ok (.iand, 1) := by decide +kernel
theorem dX4_withoutEasy_54 : decode cX4_withoutEasy 54 = .ok (.invokestatic 84, 3) := by decide +kernel
theorem dX4_withoutEasy_57 : decode cX4_withoutEasy 57 = .ok (.imul, 1) := by decide +kernel
theorem dX4_withoutEasy_58 : decode cX4_withoutEasy 58 = .ok (.iadd, 1) := by decide +kernel
theorem dX4_withoutEasy_59 : decode cX4_withoutEasy 59 = .ok (.istore 5, 2) := by decide +kernel
theorem dX4_withoutEasy_61 : decode cX4_withoutEasy 61 = .ok (.aload_n 0, 1) := by decide +kernel
theorem dX4_withoutEasy_62 : decode cX4_withoutEasy 62 = .ok (.getfield 24, 3) := by decide +kernel
theorem dX4_withoutEasy_65 : decode cX4_withoutEasy 65 = .ok (.iload_n 1, 1) := by decide +kernel
theorem dX4_withoutEasy_66 : decode cX4_withoutEasy 66 = .ok (.aaload, 1) := by decide +kernel
theorem dX4_withoutEasy_67 : decode cX4_withoutEasy 67 = .ok (.iload 4, 2) := by decide +kernel
theorem dX4_withoutEasy_69 : decode cX4_withoutEasy 69 = .ok (.iaload, 1) := by decide +kernel
theorem dX4_withoutEasy_70 : decode cX4_withoutEasy 70 = .ok (.invokestatic 84, 3) := by decide +kernel
theorem dX4_withoutEasy_73 : decode cX4_withoutEasy 73 = .ok (.iload 5, 2) := by decide +kernel
theorem dX4_withoutEasy_75 : decode cX4_withoutEasy 75 = .ok (.if_icmp .le 12, 3) := by decide +kernel
theorem dX4_withoutEasy_78 : decode cX4_withoutEasy 78 = .ok (.iload_n 3, 1) := by decide +kernel
theorem dX4_withoutEasy_79 : decode cX4_withoutEasy 79 = .ok (.iconst 1, 1) := by decide +kernel
theorem dX4_withoutEasy_80 : decode cX4_withoutEasy 80 = .ok (.iload 4, 2) := by decide +kernel
theorem dX4_withoutEasy_82 : decode cX4_withoutEasy 82 = .ok (.ishl, 1) := by decide +kernel
theorem dX4_withoutEasy_83 : decode cX4_withoutEasy 83 = .ok (.iconst (-1), 1) := by decide +kernel
theorem dX4_withoutEasy_84 : decode cX4_withoutEasy 84 = .ok (.ixor, 1) := by decide +kernel
theorem dX4_withoutEasy_85 : decode cX4_withoutEasy 85 = .ok (.iand, 1) := by decide +kernel
theorem dX4_withoutEasy_86 : decode cX4_withoutEasy 86 = .ok (.istore_n 3, 1) := by decide +kernel
theorem dX4_withoutEasy_87 : decode cX4_withoutEasy 87 = .ok (.iinc 4 1, 3) := by decide +kernel
theorem dX4_withoutEasy_90 : decode cX4_withoutEasy 90 = .ok (.goto (-85), 3) := by decide +kernel
theorem dX4_withoutEasy_93 : decode cX4_withoutEasy 93 = .ok (.iload_n 3, 1) := by decide +kernel
theorem dX4_withoutEasy_94 : decode cX4_withoutEasy 94 = .ok (.ireturn, 1) := by decide +kernel
theorem dX4_tightest_0 : decode cX4_tightest 0 = .ok (.iconst 0, 1) := by decide +kernel
theorem dX4_tightest_1 : decode cX4_tightest 1 = .ok (.istore_n 3, 1) := by decide +kernel
theorem dX4_tightest_2 : decode cX4_tightest 2 = .ok (.bipush 9, 2) := by decide +kernel
theorem dX4_tightest_4 : decode cX4_tightest 4 = .ok (.istore 4, 2) := by decide +kernel
theorem dX4_tightest_6 : decode cX4_tightest 6 = .ok (.iconst 1, 1) := by decide +kernel
theorem dX4_tightest_7 : decode cX4_tightest 7 = .ok (.istore 5, 2) := by decide +kernel
theorem dX4_tightest_9 : decode cX4_tightest 9 = .ok (.iconst 0, 1) := by decide +kernel
theorem dX4_tightest_10 : decode cX4_tightest 10 = .ok (.istore 6, 2) := by decide +kernel
theorem dX4_tightest_12 : decode cX4_tightest 12 = .ok (.iload 6, 2) := by decide +kernel
theorem dX4_tightest_14 : decode cX4_tightest 14 = .ok (.aload_n 0, 1) := by decide +kernel
theorem dX4_tightest_15 : decode cX4_tightest 15 = .ok (.getfield 12, 3) := by decide +kernel
theorem dX4_tightest_18 : decode cX4_tightest 18 = .ok (.getfield 57, 3) := by decide +kernel
theorem dX4_tightest_21 : decode cX4_tightest 21 = .ok (.if_icmp .ge 93, 3) := by decide +kernel
theorem dX4_tightest_24 : decode cX4_tightest 24 = .ok (.iload_n 2, 1) := by decide +kernel
theorem dX4_tightest_25 : decode cX4_tightest 25 = .ok (.iload 6, 2) := by decide +kernel
theorem dX4_tightest_27 : decode cX4_tightest 27 = .ok (.invokestatic 76, 3) := by decide +kernel
theorem dX4_tightest_30 : decode cX4_tightest 30 = .ok (.ifCond .eq 78, 3) := by decide +kernel
theorem dX4_tightest_33 : decode cX4_tightest 33 = .ok (.aload_n 0, 1) := by decide +kernel
theorem dX4_tightest_34 : decode cX4_tightest 34 = .ok (.getfield 24, 3) := by decide +kernel
theorem dX4_tightest_37 : decode cX4_tightest 37 = .ok (.iload_n 1, 1) := by decide +kernel
theorem dX4_tightest_38 : decode cX4_tightest 38 = .ok (.aaload, 1) := by decide +kernel
theorem dX4_tightest_39 : decode cX4_tightest 39 = .ok (.iload 6, 2) := by decide +kernel
theorem dX4_tightest_41 : decode cX4_tightest 41 = .ok (.iaload, 1) := by decide +kernel
theorem dX4_tightest_42 : decode cX4_tightest 42 = .ok (.invokestatic 84, 3) := by decide +kernel
theorem dX4_tightest_45 : decode cX4_tightest 45 = .ok (.istore 7, 2) := by decide +kernel
theorem dX4_tightest_47 : decode cX4_tightest 47 = .ok (.iconst 1, 1) := by decide +kernel
theorem dX4_tightest_48 : decode cX4_tightest 48 = .ok (.aload_n 0, 1) := by decide +kernel
theorem dX4_tightest_49 : decode cX4_tightest 49 = .ok (.getfield 12, 3) := by decide +kernel
theorem dX4_tightest_52 : decode cX4_tightest 52 = .ok (.getfield 126, 3) := by decide +kernel
theorem dX4_tightest_55 : decode cX4_tightest 55 = .ok (.iload 6, 2) := by decide +kernel
theorem dX4_tightest_57 : decode cX4_tightest 57 = .ok (.iaload, 1) := by decide +kernel
theorem dX4_tightest_58 : decode cX4_tightest 58 = .ok (.iload_n 2, 1) := by decide +kernel
theorem dX4_tightest_59 : decode cX4_tightest 59 = .ok (.iand, 1) := by decide +kernel
theorem dX4_tightest_60 : decode cX4_tightest 60 = .ok (.invokestatic 84, 3) := by decide +kernel
theorem dX4_tightest_63 : decode cX4_tightest 63 = .ok (.iadd, 1) := by decide +kernel
theorem dX4_tightest_64 : decode cX4_tightest 64 = .ok (.iconst 2, 1) := by decide +kernel
theorem dX4_tightest_65 : decode cX4_tightest 65 = .ok (.aload_n 0, 1) := by decide +kernel
theorem dX4_tightest_66 : decode cX4_tightest 66 = .ok (.getfield 12, 3) := by decide +kernel
theorem dX4_tightest_69 : decode cX4_tightest 69 = .ok (.getfield 129, 3) := by decide +kernel
theorem dX4_tightest_72 : decode cX4_tightest 72 = .ok (.iload 6, 2) := by decide +kernel
theorem dX4_tightest_74 : decode cX4_tightest 74 = .ok (.iaload, 1) := by decide +kernel
theorem dX4_tightest_75 : decode cX4_tightest 75 = .ok (.iload_n 2, 1) := by decide +kernel
theorem dX4_tightest_76 : decode cX4_tightest 76 = .ok (.iand, 1) := by decide +kernel
theorem dX4_tightest_77 : decode cX4_tightest 77 = .ok (.invokestatic 84, 3) := by decide +kernel
theorem dX4_tightest_80 : decode cX4_tightest 80 = .ok (.imul, 1) := by decide +kernel
theorem dX4_tightest_81 : decode cX4_tightest 81 = .ok (.iadd, 1) := by decide +kernel
theorem dX4_tightest_82 : decode cX4_tightest 82 = .ok (.istore 8, 2) := by decide +kernel
theorem dX4_tightest_84 : decode cX4_tightest 84 = .ok (.iload 7, 2) := by decide +kernel
theorem dX4_tightest_86 : decode cX4_tightest 86 = .ok (.iload 5, 2) := by decide +kernel
theorem dX4_tightest_88 : decode cX4_tightest 88 = .ok (.imul, 1) := by decide +kernel
theorem dX4_tightest_89 : decode cX4_tightest 89 = .ok (.iload 4, 2) := by decide +kernel
theorem dX4_tightest_91 : decode cX4_tightest 91 = .ok (.iload 8, 2) := by decide +kernel
theorem dX4_tightest_93 : decode cX4_tightest 93 = .ok (.imul, 1) := by decide +kernel
theorem dX4_tightest_94 : decode cX4_tightest 94 = .ok (.if_icmp .ge 14, 3) := by decide +kernel
theorem dX4_tightest_97 : decode cX4_tightest 97 = .ok (.iload 6, 2) := by decide +kernel
theorem dX4_tightest_99 : decode cX4_tightest 99 = .ok (.istore_n 3, 1) := by decide +kernel
theorem dX4_tightest_100 : decode cX4_tightest 100 = .ok (.iload 7, 2) := by decide +kernel
theorem dX4_tightest_102 : decode cX4_tightest 102 = .ok (.istore 4, 2) := by decide +kernel
theorem dX4_tightest_104 : decode cX4_tightest 104 = .ok (.iload 8, 2) := by decide +kernel
theorem dX4_tightest_106 : decode cX4_tightest 106 = .ok (.istore 5, 2) := by decide +kernel
theorem dX4_tightest_108 : decode cX4_tightest 108 = .ok (.iinc 6 1, 3) := by decide +kernel
theorem dX4_tightest_111 : decode cX4_tightest 111 = .ok (.goto (-99), 3) := by decide +kernel
theorem dX4_tightest_114 : decode cX4_tightest 114 = .ok (.iload_n 3, 1) := by decide +kernel
theorem dX4_tightest_115 : decode cX4_tightest 115 = .ok (.ireturn, 1) := by decide +kernel
theorem dX4_listUsers_0 : decode cX4_listUsers 0 = .ok (.aload_n 0, 1) := by decide +kernel
theorem dX4_listUsers_1 : decode cX4_listUsers 1 = .ok (.getfield 27, 3) := by decide +kernel
theorem dX4_listUsers_4 : decode cX4_listUsers 4 = .ok (.iload_n 1, 1) := by decide +kernel
theorem dX4_listUsers_5 : decode cX4_listUsers 5 = .ok (.aaload, 1) := by decide +kernel
theorem dX4_listUsers_6 : decode cX4_listUsers 6 = .ok (.iconst 0, 1) := by decide +kernel
theorem dX4_listUsers_7 : decode cX4_listUsers 7 = .ok (.invokestatic 132, 3) := by decide +kernel
theorem dX4_listUsers_10 : decode cX4_listUsers 10 = .ok (.iconst 0, 1) := by decide +kernel
theorem dX4_listUsers_11 : decode cX4_listUsers 11 = .ok (.istore_n 3, 1) := by decide +kernel
theorem dX4_listUsers_12 : decode cX4_listUsers 12 = .ok (.iload_n 3, 1) := by decide +kernel
theorem dX4_listUsers_13 : decode cX4_listUsers 13 = .ok (.aload_n 0, 1) := by decide +kernel
theorem dX4_listUsers_14 : decode cX4_listUsers 14 = .ok (.getfield 12, 3) := by decide +kernel
theorem dX4_listUsers_17 : decode cX4_listUsers 17 = .ok (.getfield 57, 3) := by decide +kernel
theorem dX4_listUsers_20 : decode cX4_listUsers 20 = .ok (.if_icmp .ge 60, 3) := by decide +kernel
theorem dX4_listUsers_23 : decode cX4_listUsers 23 = .ok (.iload_n 2, 1) := by decide +kernel
theorem dX4_listUsers_24 : decode cX4_listUsers 24 = .ok (.iload_n 3, 1) := by decide +kernel
theorem dX4_listUsers_25 : decode cX4_listUsers 25 = .ok (.invokestatic 76, 3) := by decide +kernel
theorem dX4_listUsers_28 : decode cX4_listUsers 28 = .ok (.ifCond .eq 46, 3) := by decide +kernel
theorem dX4_listUsers_31 : decode cX4_listUsers 31 = .ok (.iconst 0, 1) := by decide +kernel
theorem dX4_listUsers_32 : decode cX4_listUsers 32 = .ok (.istore 4, 2) := by decide +kernel
theorem dX4_listUsers_34 : decode cX4_listUsers 34 = .ok (.iload 4, 2) := by decide +kernel
theorem dX4_listUsers_36 : decode cX4_listUsers 36 = .ok (.bipush 8, 2) := by decide +kernel
theorem dX4_listUsers_38 : decode cX4_listUsers 38 = .ok (.if_icmp .ge 36, 3) := by decide +kernel
theorem dX4_listUsers_41 : decode cX4_listUsers 41 = .ok (.aload_n 0, 1) := by decide +kernel
theorem dX4_listUsers_42 : decode cX4_listUsers 42 = .ok (.getfield 27, 3) := by decide +kernel
theorem dX4_listUsers_45 : decode cX4_listUsers 45 = .ok (.iload_n 1, 1) := by decide +kernel
theorem dX4_listUsers_46 : decode cX4_listUsers 46 = .ok (.aaload, 1) := by decide +kernel
theorem dX4_listUsers_47 : decode cX4_listUsers 47 = .ok (.iload 4, 2) := by decide +kernel
theorem dX4_listUsers_49 : decode cX4_listUsers 49 = .ok (.dup2, 1) := by decide +kernel
theorem dX4_listUsers_50 : decode cX4_listUsers 50 = .ok (.iaload, 1) := by decide +kernel
theorem dX4_listUsers_51 : decode cX4_listUsers 51 = .ok (.aload_n 0, 1) := by decide +kernel
theorem dX4_listUsers_52 : decode cX4_listUsers 52 = .ok (.getfield 24, 3) := by decide +kernel
theorem dX4_listUsers_55 : decode cX4_listUsers 55 = .ok (.iload_n 1, 1) := by decide +kernel
theorem dX4_listUsers_56 : decode cX4_listUsers 56 = .ok (.aaload, 1) := by decide +kernel
theorem dX4_listUsers_57 : decode cX4_listUsers 57 = .ok (.iload_n 3, 1) := by decide +kernel
theorem dX4_listUsers_58 : decode cX4_listUsers 58 = .ok (.iaload, 1) := by decide +kernel
theorem dX4_listUsers_59 : decode cX4_listUsers 59 = .ok (.iload 4, 2) := by decide +kernel
theorem dX4_listUsers_61 : decode cX4_listUsers 61 = .ok (.ishr, 1) := by decide +kernel
theorem dX4_listUsers_62 : decode cX4_listUsers 62 = .ok (.iconst 1, 1) := by decide +kernel
theorem dX4_listUsers_63 : decode cX4_listUsers 63 = .ok (.iand, 1) := by decide +kernel
theorem dX4_listUsers_64 : decode cX4_listUsers 64 = .ok (.iload_n 3, 1) := by decide +kernel
theorem dX4_listUsers_65 : decode cX4_listUsers 65 = .ok (.ishl, 1) := by decide +kernel
theorem dX4_listUsers_66 : decode cX4_listUsers 66 = .ok (.ior, 1) := by decide +kernel
theorem dX4_listUsers_67 : decode cX4_listUsers 67 = .ok (.iastore, 1) := by decide +kernel
theorem dX4_listUsers_68 : decode cX4_listUsers 68 = .ok (.iinc 4 1, 3) := by decide +kernel
theorem dX4_listUsers_71 : decode cX4_listUsers 71 = .ok (.goto (-37), 3) := by decide +kernel
theorem dX4_listUsers_74 : decode cX4_listUsers 74 = .ok (.iinc 3 1, 3) := by decide +kernel
theorem dX4_listUsers_77 : decode cX4_listUsers 77 = .ok (.goto (-65), 3) := by decide +kernel
theorem dX4_listUsers_80 : decode cX4_listUsers 80 = .ok (.return_, 1) := by decide +kernel
theorem dX4_lacksRoom_0 : decode cX4_lacksRoom 0 = .ok (.iconst 0, 1) := by decide +kernel
theorem dX4_lacksRoom_1 : decode cX4_lacksRoom 1 = .ok (.istore_n 3, 1) := by decide +kernel
theorem dX4_lacksRoom_2 : decode cX4_lacksRoom 2 = .ok (.iconst 0, 1) := by decide +kernel
theorem dX4_lacksRoom_3 : decode cX4_lacksRoom 3 = .ok (.istore 4, 2) := by decide +kernel
theorem dX4_lacksRoom_5 : decode cX4_lacksRoom 5 = .ok (.iload 4, 2) := by decide +kernel
theorem dX4_lacksRoom_7 : decode cX4_lacksRoom 7 = .ok (.bipush 8, 2) := by decide +kernel
theorem dX4_lacksRoom_9 : decode cX4_lacksRoom 9 = .ok (.if_icmp .ge 26, 3) := by decide +kernel
theorem dX4_lacksRoom_12 : decode cX4_lacksRoom 12 = .ok (.iload_n 3, 1) := by decide +kernel
theorem dX4_lacksRoom_13 : decode cX4_lacksRoom 13 = .ok (.aload_n 0, 1) := by decide +kernel
theorem dX4_lacksRoom_14 : decode cX4_lacksRoom 14 = .ok (.getfield 33, 3) := by decide +kernel
theorem dX4_lacksRoom_17 : decode cX4_lacksRoom 17 = .ok (.aload_n 0, 1) := by decide +kernel
theorem dX4_lacksRoom_18 : decode cX4_lacksRoom 18 = .ok (.getfield 27, 3) := by decide +kernel
theorem dX4_lacksRoom_21 : decode cX4_lacksRoom 21 = .ok (.iload_n 1, 1) := by decide +kernel
theorem dX4_lacksRoom_22 : decode cX4_lacksRoom 22 = .ok (.aaload, 1) := by decide +kernel
theorem dX4_lacksRoom_23 : decode cX4_lacksRoom 23 = .ok (.iload 4, 2) := by decide +kernel
theorem dX4_lacksRoom_25 : decode cX4_lacksRoom 25 = .ok (.iaload, 1) := by decide +kernel
theorem dX4_lacksRoom_26 : decode cX4_lacksRoom 26 = .ok (.iaload, 1) := by decide +kernel
theorem dX4_lacksRoom_27 : decode cX4_lacksRoom 27 = .ok (.iadd, 1) := by decide +kernel
theorem dX4_lacksRoom_28 : decode cX4_lacksRoom 28 = .ok (.istore_n 3, 1) := by decide +kernel
theorem dX4_lacksRoom_29 : decode cX4_lacksRoom 29 = .ok (.iinc 4 1, 3) := by decide +kernel
theorem dX4_lacksRoom_32 : decode cX4_lacksRoom 32 = .ok (.goto (-27), 3) := by decide +kernel
theorem dX4_lacksRoom_35 : decode cX4_lacksRoom 35 = .ok (.iload_n 3, 1) := by decide +kernel
theorem dX4_lacksRoom_36 : decode cX4_lacksRoom 36 = .ok (.iload_n 2, 1) := by decide +kernel
theorem dX4_lacksRoom_37 : decode cX4_lacksRoom 37 = .ok (.invokestatic 84, 3) := by decide +kernel
theorem dX4_lacksRoom_40 : decode cX4_lacksRoom 40 = .ok (.if_icmp .ge 7, 3) := by decide +kernel
theorem dX4_lacksRoom_43 : decode cX4_lacksRoom 43 = .ok (.iconst 1, 1) := by decide +kernel
theorem dX4_lacksRoom_44 : decode cX4_lacksRoom 44 = .ok (.goto 4, 3) := by decide +kernel
theorem dX4_lacksRoom_47 : decode cX4_lacksRoom 47 = .ok (.iconst 0, 1) := by decide +kernel
theorem dX4_lacksRoom_48 : decode cX4_lacksRoom 48 = .ok (.ireturn, 1) := by decide +kernel
theorem dX4_measureSharing_0 : decode cX4_measureSharing 0 = .ok (.aload_n 0, 1) := by decide +kernel
theorem dX4_measureSharing_1 : decode cX4_measureSharing 1 = .ok (.aload_n 0, 1) := by decide +kernel
theorem dX4_measureSharing_2 : decode cX4_measureSharing 2 = .ok (.getfield 43, 3) := by decide +kernel
theorem dX4_measureSharing_5 : decode cX4_measureSharing 5 = .ok (.putfield 36, 3) := by decide +kernel
theorem dX4_measureSharing_8 : decode cX4_measureSharing 8 = .ok (.iconst 0, 1) := by decide +kernel
theorem dX4_measureSharing_9 : decode cX4_measureSharing 9 = .ok (.istore_n 1, 1) := by decide +kernel
theorem dX4_measureSharing_10 : decode cX4_measureSharing 10 = .ok (.iload_n 1, 1) := by decide +kernel
theorem dX4_measureSharing_11 : decode cX4_measureSharing 11 = .ok (.aload_n 0, 1) := by decide +kernel
theorem dX4_measureSharing_12 : decode cX4_measureSharing 12 = .ok (.getfield 12, 3) := by decide +kernel
theorem dX4_measureSharing_15 : decode cX4_measureSharing 15 = .ok (.getfield 57, 3) := by decide +kernel
theorem dX4_measureSharing_18 : decode cX4_measureSharing 18 = .ok (.if_icmp .ge 65, 3) := by decide +kernel
theorem dX4_measureSharing_21 : decode cX4_measureSharing 21 = .ok (.aload_n 0, 1) := by decide +kernel
theorem dX4_measureSharing_22 : decode cX4_measureSharing 22 = .ok (.getfield 12, 3) := by decide +kernel
theorem dX4_measureSharing_25 : decode cX4_measureSharing 25 = .ok (.getfield 126, 3) := by decide +kernel
theorem dX4_measureSharing_28 : decode cX4_measureSharing 28 = .ok (.iload_n 1, 1) := by decide +kernel
theorem dX4_measureSharing_29 : decode cX4_measureSharing 29 = .ok (.iaload, 1) := by decide +kernel
theorem dX4_measureSharing_30 : decode cX4_measureSharing 30 = .ok (.iconst (-1), 1) := by decide +kernel
theorem dX4_measureSharing_31 : decode cX4_measureSharing 31 = .ok (.ixor, 1) := by decide +kernel
theorem dX4_measureSharing_32 : decode cX4_measureSharing 32 = .ok (.istore_n 2, 1) := by decide +kernel
theorem dX4_measureSharing_33 : decode cX4_measureSharing 33 = .ok (.iconst 0, 1) := by decide +kernel
theorem dX4_measureSharing_34 : decode cX4_measureSharing 34 = .ok (.istore_n 3, 1) := by decide +kernel
theorem dX4_measureSharing_35 : decode cX4_measureSharing 35 = .ok (.iload_n 3, 1) := by decide +kernel
theorem dX4_measureSharing_36 : decode cX4_measureSharing 36 = .ok (.iconst 1, 1) := by decide +kernel
theorem dX4_measureSharing_37 : decode cX4_measureSharing 37 = .ok (.iload_n 1, 1) := by decide +kernel
theorem dX4_measureSharing_38 : decode cX4_measureSharing 38 = .ok (.ishl, 1) := by decide +kernel
theorem dX4_measureSharing_39 : decode cX4_measureSharing 39 = .ok (.if_icmp .ge 38, 3) := by decide +kernel
theorem dX4_measureSharing_42 : decode cX4_measureSharing 42 = .ok (.aload_n 0, 1) := by decide +kernel
theorem dX4_measureSharing_43 : decode cX4_measureSharing 43 = .ok (.getfield 33, 3) := by decide +kernel
theorem dX4_measureSharing_46 : decode cX4_measureSharing 46 = .ok (.iload_n 3, 1) := by decide +kernel
theorem dX4_measureSharing_47 : decode cX4_measureSharing 47 = .ok (.iconst 1, 1) := by decide +kernel
theorem dX4_measureSharing_48 : decode cX4_measureSharing 48 = .ok (.iload_n 1, 1) := by decide +kernel
theorem dX4_measureSharing_49 : decode cX4_measureSharing 49 = .ok (.ishl, 1) := by decide +kernel
theorem dX4_measureSharing_50 : decode cX4_measureSharing 50 = .ok (.ior, 1) := by decide +kernel
theorem dX4_measureSharing_51 : decode cX4_measureSharing 51 = .ok (.aload_n 0, 1) := by decide +kernel
theorem dX4_measureSharing_52 : decode cX4_measureSharing 52 = .ok (.getfield 33, 3) := by decide +kernel
theorem dX4_measureSharing_55 : decode cX4_measureSharing 55 = .ok (.iload_n 3, 1) := by decide +kernel
theorem dX4_measureSharing_56 : decode cX4_measureSharing 56 = .ok (.iaload, 1) := by decide +kernel
theorem dX4_measureSharing_57 : decode cX4_measureSharing 57 = .ok (.iconst 1, 1) := by decide +kernel
theorem dX4_measureSharing_58 : decode cX4_measureSharing 58 = .ok (.aload_n 0, 1) := by decide +kernel
theorem dX4_measureSharing_59 : decode cX4_measureSharing 59 = .ok (.getfield 33, 3) := by decide +kernel
theorem dX4_measureSharing_62 : decode cX4_measureSharing 62 = .ok (.iload_n 3, 1) := by decide +kernel
theorem dX4_measureSharing_63 : decode cX4_measureSharing 63 = .ok (.iload_n 2, 1) := by decide +kernel
theorem dX4_measureSharing_64 : decode cX4_measureSharing 64 = .ok (.iand, 1) := by decide +kernel
theorem dX4_measureSharing_65 : decode cX4_measureSharing 65 = .ok (.iaload, 1) := by decide +kernel
theorem dX4_measureSharing_66 : decode cX4_measureSharing 66 = .ok (.iadd, 1) := by decide +kernel
theorem dX4_measureSharing_67 : decode cX4_measureSharing 67 = .ok (.invokestatic 138, 3) := by decide +kernel
theorem dX4_measureSharing_70 : decode cX4_measureSharing 70 = .ok (.iastore, 1) := by decide +kernel
theorem dX4_measureSharing_71 : decode cX4_measureSharing 71 = .ok (.iinc 3 1, 3) := by decide +kernel
theorem dX4_measureSharing_74 : decode cX4_measureSharing 74 = .ok (.goto (-39), 3) := by decide +kernel
theorem dX4_measureSharing_77 : decode cX4_measureSharing 77 = .ok (.iinc 1 1, 3) := by decide +kernel
theorem dX4_measureSharing_80 : decode cX4_measureSharing 80 = .ok (.goto (-70), 3) := by decide +kernel
theorem dX4_measureSharing_83 : decode cX4_measureSharing 83 = .ok (.return_, 1) := by decide +kernel
theorem dX4_twinOf_0 : decode cX4_twinOf 0 = .ok (.iconst 0, 1) := by decide +kernel
theorem dX4_twinOf_1 : decode cX4_twinOf 1 = .ok (.istore 4, 2) := by decide +kernel
theorem dX4_twinOf_3 : decode cX4_twinOf 3 = .ok (.iload 4, 2) := by decide +kernel
theorem dX4_twinOf_5 : decode cX4_twinOf 5 = .ok (.iload_n 1, 1) := by decide +kernel
theorem dX4_twinOf_6 : decode cX4_twinOf 6 = .ok (.if_icmp .ge 41, 3) := by decide +kernel
theorem dX4_twinOf_9 : decode cX4_twinOf 9 = .ok (.iload_n 2, 1) := by decide +kernel
theorem dX4_twinOf_10 : decode cX4_twinOf 10 = .ok (.iload 4, 2) := by decide +kernel
theorem dX4_twinOf_12 : decode cX4_twinOf 12 = .ok (.invokestatic 76, 3) := by decide +kernel
theorem dX4_twinOf_15 : decode cX4_twinOf 15 = .ok (.ifCond .eq 26, 3) := by decide +kernel
theorem dX4_twinOf_18 : decode cX4_twinOf 18 = .ok (.aload_n 0, 1) := by decide +kernel
theorem dX4_twinOf_19 : decode cX4_twinOf 19 = .ok (.getfield 27, 3) := by decide +kernel
theorem dX4_twinOf_22 : decode cX4_twinOf 22 = .ok (.iload_n 3, 1) := by decide +kernel
theorem dX4_twinOf_23 : decode cX4_twinOf 23 = .ok (.aaload, 1) := by decide +kernel
theorem dX4_twinOf_24 : decode cX4_twinOf 24 = .ok (.iload 4, 2) := by decide +kernel
theorem dX4_twinOf_26 : decode cX4_twinOf 26 = .ok (.iaload, 1) := by decide +kernel
theorem dX4_twinOf_27 : decode cX4_twinOf 27 = .ok (.aload_n 0, 1) := by decide +kernel
theorem dX4_twinOf_28 : decode cX4_twinOf 28 = .ok (.getfield 27, 3) := by decide +kernel
theorem dX4_twinOf_31 : decode cX4_twinOf 31 = .ok (.iload_n 3, 1) := by decide +kernel
theorem dX4_twinOf_32 : decode cX4_twinOf 32 = .ok (.aaload, 1) := by decide +kernel
theorem dX4_twinOf_33 : decode cX4_twinOf 33 = .ok (.iload_n 1, 1) := by decide +kernel
theorem dX4_twinOf_34 : decode cX4_twinOf 34 = .ok (.iaload, 1) := by decide +kernel
theorem dX4_twinOf_35 : decode cX4_twinOf 35 = .ok (.if_icmp .ne 6, 3) := by decide +kernel
theorem dX4_twinOf_38 : decode cX4_twinOf 38 = .ok (.iload 4, 2) := by decide +kernel
theorem dX4_twinOf_40 : decode cX4_twinOf 40 = .ok (.ireturn, 1) := by decide +kernel
theorem dX4_twinOf_41 : decode cX4_twinOf 41 = .ok (.iinc 4 1, 3) := by decide +kernel
theorem dX4_twinOf_44 : decode cX4_twinOf 44 = .ok (.goto (-41), 3) := by decide +kernel
theorem dX4_twinOf_47 : decode cX4_twinOf 47 = .ok (.iconst (-1), 1) := by decide +kernel
theorem dX4_twinOf_48 : decode cX4_twinOf 48 = .ok (.ireturn, 1) := by decide +kernel
theorem dX4_give_0 : decode cX4_give 0 = .ok (.iload_n 3, 1) := by decide +kernel
theorem dX4_give_1 : decode cX4_give 1 = .ok (.iconst 1, 1) := by decide +kernel
theorem dX4_give_2 : decode cX4_give 2 = .ok (.iadd, 1) := by decide +kernel
theorem dX4_give_3 : decode cX4_give 3 = .ok (.bipush 12, 2) := by decide +kernel
theorem dX4_give_5 : decode cX4_give 5 = .ok (.if_icmp .lt 4, 3) := by decide +kernel
theorem dX4_give_8 : decode cX4_give 8 = .ok (.return_, 1) := by decide +kernel
theorem dX4_give_9 : decode cX4_give 9 = .ok (.iconst 1, 1) := by decide +kernel
theorem dX4_give_10 : decode cX4_give 10 = .ok (.iload_n 1, 1) := by decide +kernel
theorem dX4_give_11 : decode cX4_give 11 = .ok (.ishl, 1) := by decide +kernel
theorem dX4_give_12 : decode cX4_give 12 = .ok (.istore 4, 2) := by decide +kernel
theorem dX4_give_14 : decode cX4_give 14 = .ok (.iconst 0, 1) := by decide +kernel
theorem dX4_give_15 : decode cX4_give 15 = .ok (.istore 5, 2) := by decide +kernel
theorem dX4_give_17 : decode cX4_give 17 = .ok (.iload 5, 2) := by decide +kernel
theorem dX4_give_19 : decode cX4_give 19 = .ok (.aload_n 0, 1) := by decide +kernel
theorem dX4_give_20 : decode cX4_give 20 = .ok (.getfield 12, 3) := by decide +kernel
theorem dX4_give_23 : decode cX4_give 23 = .ok (.getfield 57, 3) := by decide +kernel
theorem dX4_give_26 : decode cX4_give 26 = .ok (.if_icmp .ge 90, 3) := by decide +kernel
theorem dX4_give_29 : decode cX4_give 29 = .ok (.aload_n 0, 1) := by decide +kernel
theorem dX4_give_30 : decode cX4_give 30 = .ok (.getfield 12, 3) := by decide +kernel
theorem dX4_give_33 : decode cX4_give 33 = .ok (.getfield 126, 3) := by decide +kernel
theorem dX4_give_36 : decode cX4_give 36 = .ok (.iload_n 2, 1) := by decide +kernel
theorem dX4_give_37 : decode cX4_give 37 = .ok (.iaload, 1) := by decide +kernel
theorem dX4_give_38 : decode cX4_give 38 = .ok (.iload 5, 2) := by decide +kernel
theorem dX4_give_40 : decode cX4_give 40 = .ok (.invokestatic 76, 3) := by decide +kernel
theorem dX4_give_43 : decode cX4_give 43 = .ok (.ifCond .eq 8, 3) := by decide +kernel
theorem dX4_give_46 : decode cX4_give 46 = .ok (.iload 4, 2) := by decide +kernel
theorem dX4_give_48 : decode cX4_give 48 = .ok (.goto 4, 3) := by decide +kernel
theorem dX4_give_51 : decode cX4_give 51 = .ok (.iconst 0, 1) := by decide +kernel
theorem dX4_give_52 : decode cX4_give 52 = .ok (.istore 6, 2) := by decide +kernel
theorem dX4_give_54 : decode cX4_give 54 = .ok (.aload_n 0, 1) := by decide +kernel
theorem dX4_give_55 : decode cX4_give 55 = .ok (.getfield 12, 3) := by decide +kernel
theorem dX4_give_58 : decode cX4_give 58 = .ok (.getfield 129, 3) := by decide +kernel
theorem dX4_give_61 : decode cX4_give 61 = .ok (.iload_n 2, 1) := by decide +kernel
theorem dX4_give_62 : decode cX4_give 62 = .ok (.iaload, 1) := by decide +kernel
theorem dX4_give_63 : decode cX4_give 63 = .ok (.iload 5, 2) := by decide +kernel
theorem dX4_give_65 : decode cX4_give 65 = .ok (.invokestatic 76, 3) := by decide +kernel
theorem dX4_give_68 : decode cX4_give 68 = .ok (.ifCond .eq 17, 3) := by decide +kernel
theorem dX4_give_71 : decode cX4_give 71 = .ok (.iload 6, 2) := by decide +kernel
theorem dX4_give_73 : decode cX4_give 73 = .ok (.iload 4, 2) := by decide +kernel
theorem dX4_give_75 : decode cX4_give 75 = .ok (.iconst 1, 1) := by decide +kernel
theorem dX4_give_76 : decode cX4_give 76 = .ok (.ishl, 1) := by decide +kernel
theorem dX4_give_77 : decode cX4_give 77 = .ok (.iload 4, 2) := by decide +kernel
theorem dX4_give_79 : decode cX4_give 79 = .ok (.iconst 1, 1) := by decide +kernel
theorem dX4_give_80 : decode cX4_give 80 = .ok (.ishr, 1) := by decide +kernel
theorem dX4_give_81 : decode cX4_give 81 = .ok (.ior, 1) := by decide +kernel
theorem dX4_give_82 : decode cX4_give 82 = .ok (.ior, 1) := by decide +kernel
theorem dX4_give_83 : decode cX4_give 83 = .ok (.istore 6, 2) := by decide +kernel
theorem dX4_give_85 : decode cX4_give 85 = .ok (.aload_n 0, 1) := by decide +kernel
theorem dX4_give_86 : decode cX4_give 86 = .ok (.getfield 24, 3) := by decide +kernel
theorem dX4_give_89 : decode cX4_give 89 = .ok (.iload_n 3, 1) := by decide +kernel
theorem dX4_give_90 : decode cX4_give 90 = .ok (.iconst 1, 1) := by decide +kernel
theorem dX4_give_91 : decode cX4_give 91 = .ok (.iadd, 1) := by decide +kernel
theorem dX4_give_92 : decode cX4_give 92 = .ok (.aaload, 1) := by decide +kernel
theorem dX4_give_93 : decode cX4_give 93 = .ok (.iload 5, 2) := by decide +kernel
theorem dX4_give_95 : decode cX4_give 95 = .ok (.aload_n 0, 1) := by decide +kernel
theorem dX4_give_96 : decode cX4_give 96 = .ok (.getfield 24, 3) := by decide +kernel
theorem dX4_give_99 : decode cX4_give 99 = .ok (.iload_n 3, 1) := by decide +kernel
theorem dX4_give_100 : decode cX4_give 100 = .ok (.aaload, 1) := by decide +kernel
theorem dX4_give_101 : decode cX4_give 101 = .ok (.iload 5, 2) := by decide +kernel
theorem dX4_give_103 : decode cX4_give 103 = .ok (.iaload, 1) := by decide +kernel
theorem dX4_give_104 : decode cX4_give 104 = .ok (.iload 6, 2) := by decide +kernel
theorem dX4_give_106 : decode cX4_give 106 = .ok (.iconst (-1), 1) := by decide +kernel
theorem dX4_give_107 : decode cX4_give 107 = .ok (.ixor, 1) := by decide +kernel
theorem dX4_give_108 : decode cX4_give 108 = .ok (.iand, 1) := by decide +kernel
theorem dX4_give_109 : decode cX4_give 109 = .ok (.iastore, 1) := by decide +kernel
theorem dX4_give_110 : decode cX4_give 110 = .ok (.iinc 5 1, 3) := by decide +kernel
theorem dX4_give_113 : decode cX4_give 113 = .ok (.goto (-96), 3) := by decide +kernel
theorem dX4_give_116 : decode cX4_give 116 = .ok (.return_, 1) := by decide +kernel
theorem dX6_init_0 : decode cX6_init 0 = .ok (.aload_n 0, 1) := by decide +kernel
theorem dX6_init_1 : decode cX6_init 1 = .ok (.invokespecial 3, 3) := by decide +kernel
theorem dX6_init_4 : decode cX6_init 4 = .ok (.aload_n 0, 1) := by decide +kernel
theorem dX6_init_5 : decode cX6_init 5 = .ok (.new 9, 3) := by decide +kernel
theorem dX6_init_8 : decode cX6_init 8 = .ok (.dup, 1) := by decide +kernel
theorem dX6_init_9 : decode cX6_init 9 = .ok (.invokespecial 11, 3) := by decide +kernel
theorem dX6_init_12 : decode cX6_init 12 = .ok (.putfield 12, 3) := by decide +kernel
theorem dX6_init_15 : decode cX6_init 15 = .ok (.aload_n 0, 1) := by decide +kernel
theorem dX6_init_16 : decode cX6_init 16 = .ok (.aload_n 0, 1) := by decide +kernel
theorem dX6_init_17 : decode cX6_init 17 = .ok (.getfield 12, 3) := by decide +kernel
theorem dX6_init_20 : decode cX6_init 20 = .ok (.getfield 16, 3) := by decide +kernel
theorem dX6_init_23 : decode cX6_init 23 = .ok (.putfield 20, 3) := by decide +kernel
theorem dX6_init_26 : decode cX6_init 26 = .ok (.aload_n 0, 1) := by decide +kernel
theorem dX6_init_27 : decode cX6_init 27 = .ok (.aload_n 0, 1) := by decide +kernel
theorem dX6_init_28 : decode cX6_init 28 = .ok (.getfield 20, 3) := by decide +kernel
theorem dX6_init_31 : decode cX6_init 31 = .ok (.getfield 21, 3) := by decide +kernel
theorem dX6_init_34 : decode cX6_init 34 = .ok (.putfield 27, 3) := by decide +kernel
theorem dX6_init_37 : decode cX6_init 37 = .ok (.aload_n 0, 1) := by decide +kernel
theorem dX6_init_38 : decode cX6_init 38 = .ok (.new 28, 3) := by decide +kernel
theorem dX6_init_41 : decode cX6_init 41 = .ok (.dup, 1) := by decide +kernel
theorem dX6_init_42 : decode cX6_init 42 = .ok (.invokespecial 30, 3) := by decide +kernel
theorem dX6_init_45 : decode cX6_init 45 = .ok (.putfield 31, 3) := by decide +kernel
theorem dX6_init_48 : decode cX6_init 48 = .ok (.aload_n 0, 1) := by decide +kernel
theorem dX6_init_49 : decode cX6_init 49 = .ok (.aload_n 0, 1) := by decide +kernel
theorem dX6_init_50 : decode cX6_init 50 = .ok (.getfield 31, 3) := by decide +kernel
theorem dX6_init_53 : decode cX6_init 53 = .ok (.getfield 35, 3) := by decide +kernel
theorem dX6_init_56 : decode cX6_init 56 = .ok (.putfield 39, 3) := by decide +kernel
theorem dX6_init_59 : decode cX6_init 59 = .ok (.aload_n 0, 1) := by decide +kernel
theorem dX6_init_60 : decode cX6_init 60 = .ok (.new 42, 3) := by decide +kernel
theorem dX6_init_63 : decode cX6_init 63 = .ok (.dup, 1) := by decide +kernel
theorem dX6_init_64 : decode cX6_init 64 = .ok (.invokespecial 44, 3) := by decide +kernel
theorem dX6_init_67 : decode cX6_init 67 = .ok (.putfield 45, 3) := by decide +kernel
theorem dX6_init_70 : decode cX6_init 70 = .ok (.aload_n 0, 1) := by decide +kernel
theorem dX6_init_71 : decode cX6_init 71 = .ok (.new 48, 3) := by decide +kernel
theorem dX6_init_74 : decode cX6_init 74 = .ok (.dup, 1) := by decide +kernel
theorem dX6_init_75 : decode cX6_init 75 = .ok (.invokespecial 50, 3) := by decide +kernel
theorem dX6_init_78 : decode cX6_init 78 = .ok (.putfield 51, 3) := by decide +kernel
theorem dX6_init_81 : decode cX6_init 81 = .ok (.aload_n 0, 1) := by decide +kernel
theorem dX6_init_82 : decode cX6_init 82 = .ok (.new 55, 3) := by decide +kernel
theorem dX6_init_85 : decode cX6_init 85 = .ok (.dup, 1) := by decide +kernel
theorem dX6_init_86 : decode cX6_init 86 = .ok (.invokespecial 57, 3) := by decide +kernel
theorem dX6_init_89 : decode cX6_init 89 = .ok (.putfield 58, 3) := by decide +kernel
theorem dX6_init_92 : decode cX6_init 92 = .ok (.aload_n 0, 1) := by decide +kernel
theorem dX6_init_93 : decode cX6_init 93 = .ok (.new 48, 3) := by decide +kernel
theorem dX6_init_96 : decode cX6_init 96 = .ok (.dup, 1) := by decide +kernel
theorem dX6_init_97 : decode cX6_init 97 = .ok (.invokespecial 50, 3) := by decide +kernel
theorem dX6_init_100 : decode cX6_init 100 = .ok (.putfield 61, 3) := by decide +kernel
theorem dX6_init_103 : decode cX6_init 103 = .ok (.aload_n 0, 1) := by decide +kernel
theorem dX6_init_104 : decode cX6_init 104 = .ok (.bipush 12, 2) := by decide +kernel
theorem dX6_init_106 : decode cX6_init 106 = .ok (.newarray .int, 2) := by decide +kernel
theorem dX6_init_108 : decode cX6_init 108 = .ok (.putfield 64, 3) := by decide +kernel
theorem dX6_init_111 : decode cX6_init 111 = .ok (.aload_n 0, 1) := by decide +kernel
theorem dX6_init_112 : decode cX6_init 112 = .ok (.iconst 0, 1) := by decide +kernel
theorem dX6_init_113 : decode cX6_init 113 = .ok (.putfield 68, 3) := by decide +kernel
theorem dX6_init_116 : decode cX6_init 116 = .ok (.aload_n 0, 1) := by decide +kernel
theorem dX6_init_117 : decode cX6_init 117 = .ok (.iconst (-1), 1) := by decide +kernel
theorem dX6_init_118 : decode cX6_init 118 = .ok (.putfield 72, 3) := by decide +kernel
theorem dX6_init_121 : decode cX6_init 121 = .ok (.return_, 1) := by decide +kernel
theorem dX6_addStation_0 : decode cX6_addStation 0 = .ok (.aload_n 0, 1) := by decide +kernel
theorem dX6_addStation_1 : decode cX6_addStation 1 = .ok (.iload_n 1, 1) := by decide +kernel
theorem dX6_addStation_2 : decode cX6_addStation 2 = .ok (.invokevirtual 76, 3) := by decide +kernel
theorem dX6_addStation_5 : decode cX6_addStation 5 = .ok (.aload_n 0, 1) := by decide +kernel
theorem dX6_addStation_6 : decode cX6_addStation 6 = .ok (.iload_n 2, 1) := by decide +kernel
theorem dX6_addStation_7 : decode cX6_addStation 7 = .ok (.invokevirtual 80, 3) := by decide +kernel
theorem dX6_addStation_10 : decode cX6_addStation 10 = .ok (.iload_n 3, 1) := by decide +kernel
theorem dX6_addStation_11 : decode cX6_addStation 11 = .ok (.iconst 1, 1) := by decide +kernel
theorem dX6_addStation_12 : decode cX6_addStation 12 = .ok (.if_icmp .lt 9, 3) := by decide +kernel
theorem dX6_addStation_15 : decode cX6_addStation 15 = .ok (.iload_n 3, 1) := by decide +kernel
theorem dX6_addStation_16 : decode cX6_addStation 16 = .ok (.bipush 99, 2) := by decide +kernel
theorem dX6_addStation_18 : decode cX6_addStation 18 = .ok (.if_icmp .le 13, 3) := by decide +kernel
theorem dX6_addStation_21 : decode cX6_addStation 21 = .ok (.new 83, 3) := by decide +kernel
theorem dX6_addStation_24 : decode cX6_addStation 24 = .ok (.dup, 1) := by decide +kernel
theorem dX6_addStation_25 : decode cX6_addStation 25 = .ok (.ldc 85, 2) := by decide +kernel
theorem dX6_addStation_27 : decode cX6_addStation 27 = .ok (.invokespecial 87, 3) := by decide +kernel
theorem dX6_addStation_30 : decode cX6_addStation 30 = .ok (.athrow, 1) := by decide +kernel
theorem dX6_addStation_31 : decode cX6_addStation 31 = .ok (.aload_n 0, 1) := by decide +kernel
theorem dX6_addStation_32 : decode cX6_addStation 32 = .ok (.invokevirtual 90, 3) := by decide +kernel
theorem dX6_addStation_35 : decode cX6_addStation 35 = .ok (.aload_n 0, 1) := by decide +kernel
theorem dX6_addStation_36 : decode cX6_addStation 36 = .ok (.getfield 27, 3) := by decide +kernel
theorem dX6_addStation_39 : decode cX6_addStation 39 = .ok (.getfield 93, 3) := by decide +kernel
theorem dX6_addStation_42 : decode cX6_addStation 42 = .ok (.bipush 12, 2) := by decide +kernel
theorem dX6_addStation_44 : decode cX6_addStation 44 = .ok (.if_icmp .lt 13, 3) := by decide +kernel
theorem dX6_addStation_47 : decode cX6_addStation 47 = .ok (.new 96, 3) := by decide +kernel
theorem dX6_addStation_50 : decode cX6_addStation 50 = .ok (.dup, 1) := by decide +kernel
theorem dX6_addStation_51 : decode cX6_addStation 51 = .ok (.ldc 98, 2) := by decide +kernel
theorem dX6_addStation_53 : decode cX6_addStation 53 = .ok (.invokespecial 100, 3) := by decide +kernel
theorem dX6_addStation_56 : decode cX6_addStation 56 = .ok (.athrow, 1) := by decide +kernel
theorem dX6_addStation_57 : decode cX6_addStation 57 = .ok (.aload_n 0, 1) := by decide +kernel
theorem dX6_addStation_58 : decode cX6_addStation 58 = .ok (.getfield 27, 3) := by decide +kernel
theorem dX6_addStation_61 : decode cX6_addStation 61 = .ok (.iload_n 1, 1) := by decide +kernel
theorem dX6_addStation_62 : decode cX6_addStation 62 = .ok (.iload_n 2, 1) := by decide +kernel
theorem dX6_addStation_63 : decode cX6_addStation 63 = .ok (.iload_n 3, 1) := by decide +kernel
theorem dX6_addStation_64 : decode cX6_addStation 64 = .ok (.invokevirtual 101, 3) := by decide +kernel
theorem dX6_addStation_67 : decode cX6_addStation 67 = .ok (.aload_n 0, 1) := by decide +kernel
theorem dX6_addStation_68 : decode cX6_addStation 68 = .ok (.getfield 20, 3) := by decide +kernel
theorem dX6_addStation_71 : decode cX6_addStation 71 = .ok (.invokevirtual 105, 3) := by decide +kernel
theorem dX6_addStation_74 : decode cX6_addStation 74 = .ok (.aload_n 0, 1) := by decide +kernel
theorem dX6_addStation_75 : decode cX6_addStation 75 = .ok (.getfield 27, 3) := by decide +kernel
theorem dX6_addStation_78 : decode cX6_addStation 78 = .ok (.getfield 93, 3) := by decide +kernel
theorem dX6_addStation_81 : decode cX6_addStation 81 = .ok (.iconst 1, 1) := by decide +kernel
theorem dX6_addStation_82 : decode cX6_addStation 82 = .ok (.isub, 1) := by decide +kernel
theorem dX6_addStation_83 : decode cX6_addStation 83 = .ok (.ireturn, 1) := by decide +kernel
theorem dX6_removeStation_0 : decode cX6_removeStation 0 = .ok (.aload_n 0, 1) := by decide +kernel
theorem dX6_removeStation_1 : decode cX6_removeStation 1 = .ok (.invokevirtual 90, 3) := by decide +kernel
theorem dX6_removeStation_4 : decode cX6_removeStation 4 = .ok (.aload_n 0, 1) := by decide +kernel
theorem dX6_removeStation_5 : decode cX6_removeStation 5 = .ok (.getfield 27, 3) := by decide +kernel
theorem dX6_removeStation_8 : decode cX6_removeStation 8 = .ok (.getfield 93, 3) := by decide +kernel
theorem dX6_removeStation_11 : decode cX6_removeStation 11 = .ok (.ifCond .gt 13, 3) := by decide +kernel
theorem dX6_removeStation_14 : decode cX6_removeStation 14 = .ok (.new 96, 3) := by decide +kernel
theorem dX6_removeStation_17 : decode cX6_removeStation 17 = .ok (.dup, 1) := by decide +kernel
theorem dX6_removeStation_18 : decode cX6_removeStation 18 = .ok (.ldc 108, 2) := by decide +kernel
theorem dX6_removeStation_20 : decode cX6_removeStation 20 = .ok (.invokespecial 100, 3) := by decide +kernel
theorem dX6_removeStation_23 : decode cX6_removeStation 23 = .ok (.athrow, 1) := by decide +kernel
theorem dX6_removeStation_24 : decode cX6_removeStation 24 = .ok (.aload_n 0, 1) := by decide +kernel
theorem dX6_removeStation_25 : decode cX6_removeStation 25 = .ok (.getfield 27, 3) := by decide +kernel
theorem dX6_removeStation_28 : decode cX6_removeStation 28 = .ok (.invokevirtual 110, 3) := by decide +kernel
theorem dX6_removeStation_31 : decode cX6_removeStation 31 = .ok (.aload_n 0, 1) := by decide +kernel
theorem dX6_removeStation_32 : decode cX6_removeStation 32 = .ok (.getfield 20, 3) := by decide +kernel
theorem dX6_removeStation_35 : decode cX6_removeStation 35 = .ok (.invokevirtual 105, 3) := by decide +kernel
theorem dX6_removeStation_38 : decode cX6_removeStation 38 = .ok (.aload_n 0, 1) := by decide +kernel
theorem dX6_removeStation_39 : decode cX6_removeStation 39 = .ok (.getfield 27, 3) := by decide +kernel
theorem dX6_removeStation_42 : decode cX6_removeStation 42 = .ok (.getfield 93, 3) := by decide +kernel
theorem dX6_removeStation_45 : decode cX6_removeStation 45 = .ok (.ireturn, 1) := by decide +kernel
theorem dX6_setParticipates_0 : decode cX6_setParticipates 0 = .ok (.aload_n 0, 1) := by decide +kernel
theorem dX6_setParticipates_1 : decode cX6_setParticipates 1 = .ok (.iload_n 1, 1) := by decide +kernel
theorem dX6_setParticipates_2 : decode cX6_setParticipates 2 = .ok (.invokevirtual 113, 3) := by decide +kernel
theorem dX6_setParticipates_5 : decode cX6_setParticipates 5 = .ok (.aload_n 0, 1) := by decide +kernel
theorem dX6_setParticipates_6 : decode cX6_setParticipates 6 = .ok (.invokevirtual 90, 3) := by decide +kernel
theorem dX6_setParticipates_9 : decode cX6_setParticipates 9 = .ok (.aload_n 0, 1) := by decide +kernel
theorem dX6_setParticipates_10 : decode cX6_setParticipates 10 = .ok (.getfield 27, 3) := by decide +kernel
theorem dX6_setParticipates_13 : decode cX6_setParticipates 13 = .ok (.getfield 116, 3) := by decide +kernel
theorem dX6_setParticipates_16 : decode cX6_setParticipates 16 = .ok (.iload_n 1, 1) := by decide +kernel
theorem dX6_setParticipates_17 : decode cX6_setParticipates 17 = .ok (.invokestatic 119, 3) := by decide +kernel
theorem dX6_setParticipates_20 : decode cX6_setParticipates 20 = .ok (.istore_n 3, 1) := by decide +kernel
theorem dX6_setParticipates_21 : decode cX6_setParticipates 21 = .ok (.iload_n 2, 1) := by decide +kernel
theorem dX6_setParticipates_22 : decode cX6_setParticipates 22 = .ok (.ifCond .eq 21, 3) := by decide +kernel
theorem dX6_setParticipates_25 : decode cX6_setParticipates 25 = .ok (.aload_n 0, 1) := by decide +kernel
theorem dX6_setParticipates_26 : decode cX6_setParticipates 26 = .ok (.getfield 27, 3) := by decide +kernel
theorem dX6_setParticipates_29 : decode cX6_setParticipates 29 = .ok (.dup, 1) := by decide +kernel
theorem dX6_setParticipates_30 : decode cX6_setParticipates 30 = .ok (.getfield 116, 3) := by decide +kernel
theorem dX6_setParticipates_33 : decode cX6_setParticipates 33 = .ok (.iconst 1, 1) := by decide +kernel
theorem dX6_setParticipates_34 : decode cX6_setParticipates 34 = .ok (.iload_n 1, 1) := by decide +kernel
theorem dX6_setParticipates_35 : decode cX6_setParticipates 35 = .ok (.ishl, 1) := by decide +kernel
theorem dX6_setParticipates_36 : decode cX6_setParticipates 36 = .ok (.ior, 1) := by decide +kernel
theorem dX6_setParticipates_37 : decode cX6_setParticipates 37 = .ok (.putfield 116, 3) := by decide +kernel
theorem dX6_setParticipates_40 : decode cX6_setParticipates 40 = .ok (.goto 20, 3) := by decide +kernel
theorem dX6_setParticipates_43 : decode cX6_setParticipates 43 = .ok (.aload_n 0, 1) := by decide +kernel
theorem dX6_setParticipates_44 : decode cX6_setParticipates 44 = .ok (.getfield 27, 3) := by decide +kernel
theorem dX6_setParticipates_47 : decode cX6_setParticipates 47 = .ok (.dup, 1) := by decide +kernel
theorem dX6_setParticipates_48 : decode cX6_setParticipates 48 = .ok (.getfield 116, 3) := by decide +kernel
theorem dX6_setParticipates_51 : decode cX6_setParticipates 51 = .ok (.iconst 1, 1) := by decide +kernel
theorem dX6_setParticipates_52 : decode cX6_setParticipates 52 = .ok (.iload_n 1, 1) := by decide +kernel
theorem dX6_setParticipates_53 : decode cX6_setParticipates 53 = .ok (.ishl, 1) := by decide +kernel
theorem dX6_setParticipates_54 : decode cX6_setParticipates 54 = .ok (.iconst (-1), 1) := by decide +kernel
theorem dX6_setParticipates_55 : decode cX6_setParticipates 55 = .ok (.ixor, 1) := by decide +kernel
theorem dX6_setParticipates_56 : decode cX6_setParticipates 56 = .ok (.iand, 1) := by decide +kernel
theorem dX6_setParticipates_57 : decode cX6_setParticipates 57 = .ok (.putfield 116, 3) := by decide +kernel
theorem dX6_setParticipates_60 : decode cX6_setParticipates 60 = .ok (.iload_n 3, 1) := by decide +kernel
theorem dX6_setParticipates_61 : decode cX6_setParticipates 61 = .ok (.ireturn, 1) := by decide +kernel
theorem dX6_setValue_0 : decode cX6_setValue 0 = .ok (.aload_n 0, 1) := by decide +kernel
theorem dX6_setValue_1 : decode cX6_setValue 1 = .ok (.iload_n 1, 1) := by decide +kernel
theorem dX6_setValue_2 : decode cX6_setValue 2 = .ok (.invokevirtual 113, 3) := by decide +kernel
theorem dX6_setValue_5 : decode cX6_setValue 5 = .ok (.aload_n 0, 1) := by decide +kernel
theorem dX6_setValue_6 : decode cX6_setValue 6 = .ok (.iload_n 2, 1) := by decide +kernel
theorem dX6_setValue_7 : decode cX6_setValue 7 = .ok (.invokevirtual 80, 3) := by decide +kernel
theorem dX6_setValue_10 : decode cX6_setValue 10 = .ok (.aload_n 0, 1) := by decide +kernel
theorem dX6_setValue_11 : decode cX6_setValue 11 = .ok (.invokevirtual 90, 3) := by decide +kernel
theorem dX6_setValue_14 : decode cX6_setValue 14 = .ok (.aload_n 0, 1) := by decide +kernel
theorem dX6_setValue_15 : decode cX6_setValue 15 = .ok (.getfield 27, 3) := by decide +kernel
theorem dX6_setValue_18 : decode cX6_setValue 18 = .ok (.getfield 123, 3) := by decide +kernel
theorem dX6_setValue_21 : decode cX6_setValue 21 = .ok (.iload_n 1, 1) := by decide +kernel
theorem dX6_setValue_22 : decode cX6_setValue 22 = .ok (.iaload, 1) := by decide +kernel
theorem dX6_setValue_23 : decode cX6_setValue 23 = .ok (.istore_n 3, 1) := by decide +kernel
theorem dX6_setValue_24 : decode cX6_setValue 24 = .ok (.aload_n 0, 1) := by decide +kernel
theorem dX6_setValue_25 : decode cX6_setValue 25 = .ok (.getfield 27, 3) := by decide +kernel
theorem dX6_setValue_28 : decode cX6_setValue 28 = .ok (.getfield 123, 3) := by decide +kernel
theorem dX6_setValue_31 : decode cX6_setValue 31 = .ok (.iload_n 1, 1) := by decide +kernel
theorem dX6_setValue_32 : decode cX6_setValue 32 = .ok (.iload_n 2, 1) := by decide +kernel
theorem dX6_setValue_33 : decode cX6_setValue 33 = .ok (.iastore, 1) := by decide +kernel
theorem dX6_setValue_34 : decode cX6_setValue 34 = .ok (.iload_n 3, 1) := by decide +kernel
theorem dX6_setValue_35 : decode cX6_setValue 35 = .ok (.ireturn, 1) := by decide +kernel
theorem dX6_setAvailable_0 : decode cX6_setAvailable 0 = .ok (.aload_n 0, 1) := by decide +kernel
theorem dX6_setAvailable_1 : decode cX6_setAvailable 1 = .ok (.iload_n 1, 1) := by decide +kernel
theorem dX6_setAvailable_2 : decode cX6_setAvailable 2 = .ok (.invokevirtual 76, 3) := by decide +kernel
theorem dX6_setAvailable_5 : decode cX6_setAvailable 5 = .ok (.aload_n 0, 1) := by decide +kernel
theorem dX6_setAvailable_6 : decode cX6_setAvailable 6 = .ok (.invokevirtual 90, 3) := by decide +kernel
theorem dX6_setAvailable_9 : decode cX6_setAvailable 9 = .ok (.aload_n 0, 1) := by decide +kernel
theorem dX6_setAvailable_10 : decode cX6_setAvailable 10 = .ok (.getfield 27, 3) := by decide +kernel
theorem dX6_setAvailable_13 : decode cX6_setAvailable 13 = .ok (.getfield 126, 3) := by decide +kernel
theorem dX6_setAvailable_16 : decode cX6_setAvailable 16 = .ok (.istore_n 2, 1) := by decide +kernel
theorem dX6_setAvailable_17 : decode cX6_setAvailable 17 = .ok (.aload_n 0, 1) := by decide +kernel
theorem dX6_setAvailable_18 : decode cX6_setAvailable 18 = .ok (.getfield 27, 3) := by decide +kernel
theorem dX6_setAvailable_21 : decode cX6_setAvailable 21 = .ok (.iload_n 1, 1) := by decide +kernel
theorem dX6_setAvailable_22 : decode cX6_setAvailable 22 = .ok (.putfield 126, 3) := by decide +kernel
theorem dX6_setAvailable_25 : decode cX6_setAvailable 25 = .ok (.aload_n 0, 1) := by decide +kernel
theorem dX6_setAvailable_26 : decode cX6_setAvailable 26 = .ok (.getfield 20, 3) := by decide +kernel
theorem dX6_setAvailable_29 : decode cX6_setAvailable 29 = .ok (.invokevirtual 105, 3) := by decide +kernel
theorem dX6_setAvailable_32 : decode cX6_setAvailable 32 = .ok (.iload_n 2, 1) := by decide +kernel
theorem dX6_setAvailable_33 : decode cX6_setAvailable 33 = .ok (.ireturn, 1) := by decide +kernel
theorem dX6_append_0 : decode cX6_append 0 = .ok (.iconst 0, 1) := by decide +kernel
theorem dX6_append_1 : decode cX6_append 1 = .ok (.istore_n 2, 1) := by decide +kernel
theorem dX6_append_2 : decode cX6_append 2 = .ok (.bipush 24, 2) := by decide +kernel
theorem dX6_append_4 : decode cX6_append 4 = .ok (.istore_n 3, 1) := by decide +kernel
theorem dX6_append_5 : decode cX6_append 5 = .ok (.iload_n 3, 1) := by decide +kernel
theorem dX6_append_6 : decode cX6_append 6 = .ok (.ifCond .lt 50, 3) := by decide +kernel
theorem dX6_append_9 : decode cX6_append 9 = .ok (.iload_n 1, 1) := by decide +kernel
theorem dX6_append_10 : decode cX6_append 10 = .ok (.iload_n 3, 1) := by decide +kernel
theorem dX6_append_11 : decode cX6_append 11 = .ok (.iushr, 1) := by decide +kernel
theorem dX6_append_12 : decode cX6_append 12 = .ok (.sipush 255, 3) := by decide +kernel
theorem dX6_append_15 : decode cX6_append 15 = .ok (.iand, 1) := by decide +kernel
theorem dX6_append_16 : decode cX6_append 16 = .ok (.istore 4, 2) := by decide +kernel
theorem dX6_append_18 : decode cX6_append 18 = .ok (.iload 4, 2) := by decide +kernel
theorem dX6_append_20 : decode cX6_append 20 = .ok (.ifCond .eq 30, 3) := by decide +kernel
theorem dX6_append_23 : decode cX6_append 23 = .ok (.iload 4, 2) := by decide +kernel
theorem dX6_append_25 : decode cX6_append 25 = .ok (.bipush 33, 2) := by decide +kernel
theorem dX6_append_27 : decode cX6_append 27 = .ok (.if_icmp .lt 10, 3) := by decide +kernel
theorem dX6_append_30 : decode cX6_append 30 = .ok (.iload 4, 2) := by decide +kernel
theorem dX6_append_32 : decode cX6_append 32 = .ok (.bipush 126, 2) := by decide +kernel
theorem dX6_append_34 : decode cX6_append 34 = .ok (.if_icmp .le 13, 3) := by decide +kernel
theorem dX6_append_37 : decode cX6_append 37 = .ok (.new 83, 3) := by decide +kernel
theorem dX6_append_40 : decode cX6_append 40 = .ok (.dup, 1) := by decide +kernel
theorem dX6_append_41 : decode cX6_append 41 = .ok (.ldc 129, 2) := by decide +kernel
theorem dX6_append_43 : decode cX6_append 43 = .ok (.invokespecial 87, 3) := by decide +kernel
theorem dX6_append_46 : decode cX6_append 46 = .ok (.athrow, 1) := by decide +kernel
theorem dX6_append_47 : decode cX6_append 47 = .ok (.iinc 2 1, 3) := by decide +kernel
theorem dX6_append_50 : decode cX6_append 50 = .ok (.iinc 3 (-8), 3) := by decide +kernel
theorem dX6_append_53 : decode cX6_append 53 = .ok (.goto (-48), 3) := by decide +kernel
theorem dX6_append_56 : decode cX6_append 56 = .ok (.aload_n 0, 1) := by decide +kernel
theorem dX6_append_57 : decode cX6_append 57 = .ok (.getfield 39, 3) := by decide +kernel
theorem dX6_append_60 : decode cX6_append 60 = .ok (.getfield 131, 3) := by decide +kernel
theorem dX6_append_63 : decode cX6_append 63 = .ok (.iload_n 2, 1) := by decide +kernel
theorem dX6_append_64 : decode cX6_append 64 = .ok (.iadd, 1) := by decide +kernel
theorem dX6_append_65 : decode cX6_append 65 = .ok (.bipush 40, 2) := by decide +kernel
theorem dX6_append_67 : decode cX6_append 67 = .ok (.if_icmp .le 13, 3) := by decide +kernel
theorem dX6_append_70 : decode cX6_append 70 = .ok (.new 96, 3) := by decide +kernel
theorem dX6_append_73 : decode cX6_append 73 = .ok (.dup, 1) := by decide +kernel
theorem dX6_append_74 : decode cX6_append 74 = .ok (.ldc 134, 2) := by decide +kernel
theorem dX6_append_76 : decode cX6_append 76 = .ok (.invokespecial 100, 3) := by decide +kernel
theorem dX6_append_79 : decode cX6_append 79 = .ok (.athrow, 1) := by decide +kernel
theorem dX6_append_80 : decode cX6_append 80 = .ok (.bipush 24, 2) := by decide +kernel
theorem dX6_append_82 : decode cX6_append 82 = .ok (.istore_n 3, 1) := by decide +kernel
theorem dX6_append_83 : decode cX6_append 83 = .ok (.iload_n 3, 1) := by decide +kernel
theorem dX6_append_84 : decode cX6_append 84 = .ok (.ifCond .lt 33, 3) := by decide +kernel
theorem dX6_append_87 : decode cX6_append 87 = .ok (.iload_n 1, 1) := by decide +kernel
theorem dX6_append_88 : decode cX6_append 88 = .ok (.iload_n 3, 1) := by decide +kernel
theorem dX6_append_89 : decode cX6_append 89 = .ok (.iushr, 1) := by decide +kernel
theorem dX6_append_90 : decode cX6_append 90 = .ok (.sipush 255, 3) := by decide +kernel
theorem dX6_append_93 : decode cX6_append 93 = .ok (.iand, 1) := by decide +kernel
theorem dX6_append_94 : decode cX6_append 94 = .ok (.istore 4, 2) := by decide +kernel
theorem dX6_append_96 : decode cX6_append 96 = .ok (.iload 4, 2) := by decide +kernel
theorem dX6_append_98 : decode cX6_append 98 = .ok (.ifCond .eq 13, 3) := by decide +kernel
theorem dX6_append_101 : decode cX6_append 101 = .ok (.aload_n 0, 1) := by decide +kernel
theorem dX6_append_102 : decode cX6_append 102 = .ok (.getfield 39, 3) := by decide +kernel
theorem dX6_append_105 : decode cX6_append 105 = .ok (.iload 4, 2) := by decide +kernel
theorem dX6_append_107 : decode cX6_append 107 = .ok (.i2c, 1) := by decide +kernel
theorem dX6_append_108 : decode cX6_append 108 = .ok (.invokevirtual 136, 3) := by decide +kernel
theorem dX6_append_111 : decode cX6_append 111 = .ok (.iinc 3 (-8), 3) := by decide +kernel
theorem dX6_append_114 : decode cX6_append 114 = .ok (.goto (-31), 3) := by decide +kernel
theorem dX6_append_117 : decode cX6_append 117 = .ok (.aload_n 0, 1) := by decide +kernel
theorem dX6_append_118 : decode cX6_append 118 = .ok (.getfield 39, 3) := by decide +kernel
theorem dX6_append_121 : decode cX6_append 121 = .ok (.getfield 131, 3) := by decide +kernel
theorem dX6_append_124 : decode cX6_append 124 = .ok (.ireturn, 1) := by decide +kernel
theorem dX6_setConflicts_0 : decode cX6_setConflicts 0 = .ok (.aload_n 0, 1) := by decide +kernel
theorem dX6_setConflicts_1 : decode cX6_setConflicts 1 = .ok (.invokevirtual 90, 3) := by decide +kernel
theorem dX6_setConflicts_4 : decode cX6_setConflicts 4 = .ok (.aload_n 0, 1) := by decide +kernel
theorem dX6_setConflicts_5 : decode cX6_setConflicts 5 = .ok (.aload_n 0, 1) := by decide +kernel
theorem dX6_setConflicts_6 : decode cX6_setConflicts 6 = .ok (.getfield 31, 3) := by decide +kernel
theorem dX6_setConflicts_9 : decode cX6_setConflicts 9 = .ok (.aload_n 0, 1) := by decide +kernel
theorem dX6_setConflicts_10 : decode cX6_setConflicts 10 = .ok (.getfield 27, 3) := by decide +kernel
theorem dX6_setConflicts_13 : decode cX6_setConflicts 13 = .ok (.invokevirtual 140, 3) := by decide +kernel
theorem dX6_setConflicts_16 : decode cX6_setConflicts 16 = .ok (.putfield 72, 3) := by decide +kernel
theorem dX6_setConflicts_19 : decode cX6_setConflicts 19 = .ok (.aload_n 0, 1) := by decide +kernel
theorem dX6_setConflicts_20 : decode cX6_setConflicts 20 = .ok (.getfield 39, 3) := by decide +kernel
theorem dX6_setConflicts_23 : decode cX6_setConflicts 23 = .ok (.iconst 0, 1) := by decide +kernel
theorem dX6_setConflicts_24 : decode cX6_setConflicts 24 = .ok (.putfield 131, 3) := by decide +kernel
theorem dX6_setConflicts_27 : decode cX6_setConflicts 27 = .ok (.aload_n 0, 1) := by decide +kernel
theorem dX6_setConflicts_28 : decode cX6_setConflicts 28 = .ok (.getfield 72, 3) := by decide +kernel
theorem dX6_setConflicts_31 : decode cX6_setConflicts 31 = .ok (.iconst (-1), 1) := by decide +kernel
theorem dX6_setConflicts_32 : decode cX6_setConflicts 32 = .ok (.if_icmp .eq 13, 3) := by decide +kernel
theorem dX6_setConflicts_35 : decode cX6_setConflicts 35 = .ok (.new 83, 3) := by decide +kernel
theorem dX6_setConflicts_38 : decode cX6_setConflicts 38 = .ok (.dup, 1) := by decide +kernel
theorem dX6_setConflicts_39 : decode cX6_setConflicts 39 = .ok (.ldc 144, 2) := by decide +kernel
theorem dX6_setConflicts_41 : decode cX6_setConflicts 41 = .ok (.invokespecial 87, 3) := by decide +kernel
theorem dX6_setConflicts_44 : decode cX6_setConflicts 44 = .ok (.athrow, 1) := by decide +kernel
theorem dX6_setConflicts_45 : decode cX6_setConflicts 45 = .ok (.aload_n 0, 1) := by decide +kernel
theorem dX6_setConflicts_46 : decode cX6_setConflicts 46 = .ok (.getfield 31, 3) := by decide +kernel
theorem dX6_setConflicts_49 : decode cX6_setConflicts 49 = .ok (.aload_n 0, 1) := by decide +kernel
theorem dX6_setConflicts_50 : decode cX6_setConflicts 50 = .ok (.getfield 27, 3) := by decide +kernel
theorem dX6_setConflicts_53 : decode cX6_setConflicts 53 = .ok (.invokevirtual 146, 3) := by decide +kernel
theorem dX6_setConflicts_56 : decode cX6_setConflicts 56 = .ok (.aload_n 0, 1) := by decide +kernel
theorem dX6_setConflicts_57 : decode cX6_setConflicts 57 = .ok (.getfield 20, 3) := by decide +kernel
theorem dX6_setConflicts_60 : decode cX6_setConflicts 60 = .ok (.invokevirtual 105, 3) := by decide +kernel
theorem dX6_setConflicts_63 : decode cX6_setConflicts 63 = .ok (.aload_n 0, 1) := by decide +kernel
theorem dX6_setConflicts_64 : decode cX6_setConflicts 64 = .ok (.getfield 31, 3) := by decide +kernel
theorem dX6_setConflicts_67 : decode cX6_setConflicts 67 = .ok (.getfield 150, 3) := by decide +kernel
theorem dX6_setConflicts_70 : decode cX6_setConflicts 70 = .ok (.ireturn, 1) := by decide +kernel
theorem dX6_errorPosition_0 : decode cX6_errorPosition 0 = .ok (.aload_n 0, 1) := by decide +kernel
theorem dX6_errorPosition_1 : decode cX6_errorPosition 1 = .ok (.getfield 72, 3) := by decide +kernel
theorem dX6_errorPosition_4 : decode cX6_errorPosition 4 = .ok (.ireturn, 1) := by decide +kernel
theorem dX6_hasConflict_0 : decode cX6_hasConflict 0 = .ok (.aload_n 0, 1) := by decide +kernel
theorem dX6_hasConflict_1 : decode cX6_hasConflict 1 = .ok (.iload_n 1, 1) := by decide +kernel
theorem dX6_hasConflict_2 : decode cX6_hasConflict 2 = .ok (.invokevirtual 113, 3) := by decide +kernel
theorem dX6_hasConflict_5 : decode cX6_hasConflict 5 = .ok (.aload_n 0, 1) := by decide +kernel
theorem dX6_hasConflict_6 : decode cX6_hasConflict 6 = .ok (.iload_n 2, 1) := by decide +kernel
theorem dX6_hasConflict_7 : decode cX6_hasConflict 7 = .ok (.invokevirtual 113, 3) := by decide +kernel
theorem dX6_hasConflict_10 : decode cX6_hasConflict 10 = .ok (.iload_n 3, 1) := by decide +kernel
theorem dX6_hasConflict_11 : decode cX6_hasConflict 11 = .ok (.ifCond .eq 18, 3) := by decide +kernel
theorem dX6_hasConflict_14 : decode cX6_hasConflict 14 = .ok (.iload_n 3, 1) := by decide +kernel
theorem dX6_hasConflict_15 : decode cX6_hasConflict 15 = .ok (.iconst 1, 1) := by decide +kernel
theorem dX6_hasConflict_16 : decode cX6_hasConflict 16 = .ok (.if_icmp .eq 13, 3) := by decide +kernel
theorem dX6_hasConflict_19 : decode cX6_hasConflict 19 = .ok (.new 83, 3) := by decide +kernel
theorem dX6_hasConflict_22 : decode cX6_hasConflict 22 = .ok (.dup, 1) := by decide +kernel
theorem dX6_hasConflict_23 : decode cX6_hasConflict 23 = .ok (.ldc 153, 2) := by decide +kernel
theorem dX6_hasConflict_25 : decode cX6_hasConflict 25 = .ok (.invokespecial 87, 3) := by decide +kernel
theorem dX6_hasConflict_28 : decode cX6_hasConflict 28 = .ok (.athrow, 1) := by decide +kernel
theorem dX6_hasConflict_29 : decode cX6_hasConflict 29 = .ok (.iload_n 3, 1) := by decide +kernel
theorem dX6_hasConflict_30 : decode cX6_hasConflict 30 = .ok (.ifCond .ne 15, 3) := by decide +kernel
theorem dX6_hasConflict_33 : decode cX6_hasConflict 33 = .ok (.aload_n 0, 1) := by decide +kernel
theorem dX6_hasConflict_34 : decode cX6_hasConflict 34 = .ok (.getfield 27, 3) := by decide +kernel
theorem dX6_hasConflict_37 : decode cX6_hasConflict 37 = .ok (.getfield 155, 3) := by decide +kernel
theorem dX6_hasConflict_40 : decode cX6_hasConflict 40 = .ok (.iload_n 1, 1) := by decide +kernel
theorem dX6_hasConflict_41 : decode cX6_hasConflict 41 = .ok (.iaload, 1) := by decide +kernel
theorem dX6_hasConflict_42 : decode cX6_hasConflict 42 = .ok (.goto 12, 3) := by decide +kernel
theorem dX6_hasConflict_45 : decode cX6_hasConflict 45 = .ok (.aload_n 0, 1) := by decide +kernel
theorem dX6_hasConflict_46 : decode cX6_hasConflict 46 = .ok (.getfield 27, 3) := by decide +kernel
theorem dX6_hasConflict_49 : decode cX6_hasConflict 49 = .ok (.getfield 158, 3) := by decide +kernel
theorem dX6_hasConflict_52 : decode cX6_hasConflict 52 = .ok (.iload_n 1, 1) := by decide +kernel
theorem dX6_hasConflict_53 : decode cX6_hasConflict 53 = .ok (.iaload, 1) := by decide +kernel
theorem dX6_hasConflict_54 : decode cX6_hasConflict 54 = .ok (.iload_n 2, 1) := by decide +kernel
theorem dX6_hasConflict_55 : decode cX6_hasConflict 55 = .ok (.invokestatic 119, 3) := by decide +kernel
theorem dX6_hasConflict_58 : decode cX6_hasConflict 58 = .ok (.ireturn, 1) := by decide +kernel
theorem dX6_conflicts_0 : decode cX6_conflicts 0 = .ok (.aload_n 0, 1) := by decide +kernel
theorem dX6_conflicts_1 : decode cX6_conflicts 1 = .ok (.invokevirtual 161, 3) := by decide +kernel
theorem dX6_conflicts_4 : decode cX6_conflicts 4 = .ok (.iload_n 1, 1) := by decide +kernel
theorem dX6_conflicts_5 : decode cX6_conflicts 5 = .ok (.iconst (-1), 1) := by decide +kernel
theorem dX6_conflicts_6 : decode cX6_conflicts 6 = .ok (.if_icmp .ne 11, 3) := by decide +kernel
theorem dX6_conflicts_9 : decode cX6_conflicts 9 = .ok (.aload_n 0, 1) := by decide +kernel
theorem dX6_conflicts_10 : decode cX6_conflicts 10 = .ok (.getfield 45, 3) := by decide +kernel
theorem dX6_conflicts_13 : decode cX6_conflicts 13 = .ok (.getfield 131, 3) := by decide +kernel
theorem dX6_conflicts_16 : decode cX6_conflicts 16 = .ok (.ireturn, 1) := by decide +kernel
theorem dX6_conflicts_17 : decode cX6_conflicts 17 = .ok (.iload_n 1, 1) := by decide +kernel
theorem dX6_conflicts_18 : decode cX6_conflicts 18 = .ok (.ifCond .lt 14, 3) := by decide +kernel
theorem dX6_conflicts_21 : decode cX6_conflicts 21 = .ok (.iload_n 1, 1) := by decide +kernel
theorem dX6_conflicts_22 : decode cX6_conflicts 22 = .ok (.aload_n 0, 1) := by decide +kernel
theorem dX6_conflicts_23 : decode cX6_conflicts 23 = .ok (.getfield 45, 3) := by decide +kernel
theorem dX6_conflicts_26 : decode cX6_conflicts 26 = .ok (.getfield 131, 3) := by decide +kernel
theorem dX6_conflicts_29 : decode cX6_conflicts 29 = .ok (.if_icmp .lt 13, 3) := by decide +kernel
theorem dX6_conflicts_32 : decode cX6_conflicts 32 = .ok (.new 164, 3) := by decide +kernel
theorem dX6_conflicts_35 : decode cX6_conflicts 35 = .ok (.dup, 1) := by decide +kernel
theorem dX6_conflicts_36 : decode cX6_conflicts 36 = .ok (.ldc 166, 2) := by decide +kernel
theorem dX6_conflicts_38 : decode cX6_conflicts 38 = .ok (.invokespecial 168, 3) := by decide +kernel
theorem dX6_conflicts_41 : decode cX6_conflicts 41 = .ok (.athrow, 1) := by decide +kernel
theorem dX6_conflicts_42 : decode cX6_conflicts 42 = .ok (.aload_n 0, 1) := by decide +kernel
theorem dX6_conflicts_43 : decode cX6_conflicts 43 = .ok (.getfield 45, 3) := by decide +kernel
theorem dX6_conflicts_46 : decode cX6_conflicts 46 = .ok (.iload_n 1, 1) := by decide +kernel
theorem dX6_conflicts_47 : decode cX6_conflicts 47 = .ok (.invokevirtual 169, 3) := by decide +kernel
theorem dX6_conflicts_50 : decode cX6_conflicts 50 = .ok (.ireturn, 1) := by decide +kernel
theorem dX6_station_0 : decode cX6_station 0 = .ok (.aload_n 0, 1) := by decide +kernel
theorem dX6_station_1 : decode cX6_station 1 = .ok (.iload_n 1, 1) := by decide +kernel
theorem dX6_station_2 : decode cX6_station 2 = .ok (.invokevirtual 113, 3) := by decide +kernel
theorem dX6_station_5 : decode cX6_station 5 = .ok (.iload_n 2, 1) := by decide +kernel
theorem dX6_station_6 : decode cX6_station 6 = .ok (.tableswitch 107 0 5 #[38, 48, 58, 68, 88, 97], 38) := by decide +kernel
theorem dX6_station_44 : decode cX6_station 44 = .ok (.aload_n 0, 1) := by decide +kernel
theorem dX6_station_45 : decode cX6_station 45 = .ok (.getfield 27, 3) := by decide +kernel
theorem dX6_station_48 : decode cX6_station 48 = .ok (.getfield 173, 3) := by decide +kernel
theorem dX6_station_51 : decode cX6_station 51 = .ok (.iload_n 1, 1) := by decide +kernel
theorem dX6_station_52 : decode cX6_station 52 = .ok (.iaload, 1) := by decide +kernel
theorem dX6_station_53 : decode cX6_station 53 = .ok (.ireturn, 1) := by decide +kernel
theorem dX6_station_54 : decode cX6_station 54 = .ok (.aload_n 0, 1) := by decide +kernel
theorem dX6_station_55 : decode cX6_station 55 = .ok (.getfield 27, 3) := by decide +kernel
theorem dX6_station_58 : decode cX6_station 58 = .ok (.getfield 123, 3) := by decide +kernel
theorem dX6_station_61 : decode cX6_station 61 = .ok (.iload_n 1, 1) := by decide +kernel
theorem dX6_station_62 : decode cX6_station 62 = .ok (.iaload, 1) := by decide +kernel
theorem dX6_station_63 : decode cX6_station 63 = .ok (.ireturn, 1) := by decide +kernel
theorem dX6_station_64 : decode cX6_station 64 = .ok (.aload_n 0, 1) := by decide +kernel
theorem dX6_station_65 : decode cX6_station 65 = .ok (.getfield 27, 3) := by decide +kernel
theorem dX6_station_68 : decode cX6_station 68 = .ok (.getfield 176, 3) := by decide +kernel
theorem dX6_station_71 : decode cX6_station 71 = .ok (.iload_n 1, 1) := by decide +kernel
theorem dX6_station_72 : decode cX6_station 72 = .ok (.iaload, 1) := by decide +kernel
theorem dX6_station_73 : decode cX6_station 73 = .ok (.ireturn, 1) := by decide +kernel
theorem dX6_station_74 : decode cX6_station 74 = .ok (.aload_n 0, 1) := by decide +kernel
theorem dX6_station_75 : decode cX6_station 75 = .ok (.getfield 27, 3) := by decide +kernel
theorem dX6_station_78 : decode cX6_station 78 = .ok (.getfield 116, 3) := by decide +kernel
theorem dX6_station_81 : decode cX6_station 81 = .ok (.iload_n 1, 1) := by decide +kernel
theorem dX6_station_82 : decode cX6_station 82 = .ok (.invokestatic 119, 3) := by decide +kernel
theorem dX6_station_85 : decode cX6_station 85 = .ok (.ifCond .eq 7, 3) := by decide +kernel
theorem dX6_station_88 : decode cX6_station 88 = .ok (.iconst 1, 1) := by decide +kernel
theorem dX6_station_89 : decode cX6_station 89 = .ok (.goto 4, 3) := by decide +kernel
theorem dX6_station_92 : decode cX6_station 92 = .ok (.iconst 0, 1) := by decide +kernel
theorem dX6_station_93 : decode cX6_station 93 = .ok (.ireturn, 1) := by decide +kernel
theorem dX6_station_94 : decode cX6_station 94 = .ok (.aload_n 0, 1) := by decide +kernel
theorem dX6_station_95 : decode cX6_station 95 = .ok (.getfield 27, 3) := by decide +kernel
theorem dX6_station_98 : decode cX6_station 98 = .ok (.iload_n 1, 1) := by decide +kernel
theorem dX6_station_99 : decode cX6_station 99 = .ok (.invokevirtual 179, 3) := by decide +kernel
theorem dX6_station_102 : decode cX6_station 102 = .ok (.ireturn, 1) := by decide +kernel
theorem dX6_station_103 : decode cX6_station 103 = .ok (.aload_n 0, 1) := by decide +kernel
theorem dX6_station_104 : decode cX6_station 104 = .ok (.getfield 27, 3) := by decide +kernel
theorem dX6_station_107 : decode cX6_station 107 = .ok (.getfield 183, 3) := by decide +kernel
theorem dX6_station_110 : decode cX6_station 110 = .ok (.iload_n 1, 1) := by decide +kernel
theorem dX6_station_111 : decode cX6_station 111 = .ok (.iaload, 1) := by decide +kernel
theorem dX6_station_112 : decode cX6_station 112 = .ok (.ireturn, 1) := by decide +kernel
theorem dX6_station_113 : decode cX6_station 113 = .ok (.new 83, 3) := by decide +kernel
theorem dX6_station_116 : decode cX6_station 116 = .ok (.dup, 1) := by decide +kernel
theorem dX6_station_117 : decode cX6_station 117 = .ok (.ldc 186, 2) := by decide +kernel
theorem dX6_station_119 : decode cX6_station 119 = .ok (.invokespecial 87, 3) := by decide +kernel
theorem dX6_station_122 : decode cX6_station 122 = .ok (.athrow, 1) := by decide +kernel
theorem dX6_volumeBits_0 : decode cX6_volumeBits 0 = .ok (.aload_n 0, 1) := by decide +kernel
theorem dX6_volumeBits_1 : decode cX6_volumeBits 1 = .ok (.iload_n 1, 1) := by decide +kernel
theorem dX6_volumeBits_2 : decode cX6_volumeBits 2 = .ok (.invokevirtual 113, 3) := by decide +kernel
theorem dX6_volumeBits_5 : decode cX6_volumeBits 5 = .ok (.aload_n 0, 1) := by decide +kernel
theorem dX6_volumeBits_6 : decode cX6_volumeBits 6 = .ok (.getfield 27, 3) := by decide +kernel
theorem dX6_volumeBits_9 : decode cX6_volumeBits 9 = .ok (.iload_n 1, 1) := by decide +kernel
theorem dX6_volumeBits_10 : decode cX6_volumeBits 10 = .ok (.invokevirtual 188, 3) := by decide +kernel
theorem dX6_volumeBits_13 : decode cX6_volumeBits 13 = .ok (.invokestatic 192, 3) := by decide +kernel
theorem dX6_volumeBits_16 : decode cX6_volumeBits 16 = .ok (.ireturn, 1) := by decide +kernel
theorem dX6_priceAt_0 : decode cX6_priceAt 0 = .ok (.aload_n 0, 1) := by decide +kernel
theorem dX6_priceAt_1 : decode cX6_priceAt 1 = .ok (.iload_n 1, 1) := by decide +kernel
theorem dX6_priceAt_2 : decode cX6_priceAt 2 = .ok (.invokevirtual 113, 3) := by decide +kernel
theorem dX6_priceAt_5 : decode cX6_priceAt 5 = .ok (.iload_n 2, 1) := by decide +kernel
theorem dX6_priceAt_6 : decode cX6_priceAt 6 = .ok (.ifCond .lt 10, 3) := by decide +kernel
theorem dX6_priceAt_9 : decode cX6_priceAt 9 = .ok (.iload_n 2, 1) := by decide +kernel
theorem dX6_priceAt_10 : decode cX6_priceAt 10 = .ok (.sipush 1000, 3) := by decide +kernel
theorem dX6_priceAt_13 : decode cX6_priceAt 13 = .ok (.if_icmp .le 13, 3) := by decide +kernel
theorem dX6_priceAt_16 : decode cX6_priceAt 16 = .ok (.new 83, 3) := by decide +kernel
theorem dX6_priceAt_19 : decode cX6_priceAt 19 = .ok (.dup, 1) := by decide +kernel
theorem dX6_priceAt_20 : decode cX6_priceAt 20 = .ok (.ldc 196, 2) := by decide +kernel
theorem dX6_priceAt_22 : decode cX6_priceAt 22 = .ok (.invokespecial 87, 3) := by decide +kernel
theorem dX6_priceAt_25 : decode cX6_priceAt 25 = .ok (.athrow, 1) := by decide +kernel
theorem dX6_priceAt_26 : decode cX6_priceAt 26 = .ok (.aload_n 0, 1) := by decide +kernel
theorem dX6_priceAt_27 : decode cX6_priceAt 27 = .ok (.getfield 27, 3) := by decide +kernel
theorem dX6_priceAt_30 : decode cX6_priceAt 30 = .ok (.iload_n 1, 1) := by decide +kernel
theorem dX6_priceAt_31 : decode cX6_priceAt 31 = .ok (.iload_n 2, 1) := by decide +kernel
theorem dX6_priceAt_32 : decode cX6_priceAt 32 = .ok (.invokevirtual 198, 3) := by decide +kernel
theorem dX6_priceAt_35 : decode cX6_priceAt 35 = .ok (.ireturn, 1) := by decide +kernel
theorem dX6_isFeasible_0 : decode cX6_isFeasible 0 = .ok (.aload_n 0, 1) := by decide +kernel
theorem dX6_isFeasible_1 : decode cX6_isFeasible 1 = .ok (.iload_n 1, 1) := by decide +kernel
theorem dX6_isFeasible_2 : decode cX6_isFeasible 2 = .ok (.invokevirtual 202, 3) := by decide +kernel
theorem dX6_isFeasible_5 : decode cX6_isFeasible 5 = .ok (.aload_n 0, 1) := by decide +kernel
theorem dX6_isFeasible_6 : decode cX6_isFeasible 6 = .ok (.getfield 20, 3) := by decide +kernel
theorem dX6_isFeasible_9 : decode cX6_isFeasible 9 = .ok (.iload_n 1, 1) := by decide +kernel
theorem dX6_isFeasible_10 : decode cX6_isFeasible 10 = .ok (.invokevirtual 205, 3) := by decide +kernel
theorem dX6_isFeasible_13 : decode cX6_isFeasible 13 = .ok (.ireturn, 1) := by decide +kernel
theorem dX6_assign_0 : decode cX6_assign 0 = .ok (.aload_n 0, 1) := by decide +kernel
theorem dX6_assign_1 : decode cX6_assign 1 = .ok (.iload_n 1, 1) := by decide +kernel
theorem dX6_assign_2 : decode cX6_assign 2 = .ok (.invokevirtual 202, 3) := by decide +kernel
theorem dX6_assign_5 : decode cX6_assign 5 = .ok (.aload_n 0, 1) := by decide +kernel
theorem dX6_assign_6 : decode cX6_assign 6 = .ok (.iload_n 1, 1) := by decide +kernel
theorem dX6_assign_7 : decode cX6_assign 7 = .ok (.invokevirtual 209, 3) := by decide +kernel
theorem dX6_assign_10 : decode cX6_assign 10 = .ok (.aload_n 0, 1) := by decide +kernel
theorem dX6_assign_11 : decode cX6_assign 11 = .ok (.getfield 20, 3) := by decide +kernel
theorem dX6_assign_14 : decode cX6_assign 14 = .ok (.iload_n 1, 1) := by decide +kernel
theorem dX6_assign_15 : decode cX6_assign 15 = .ok (.iconst 0, 1) := by decide +kernel
theorem dX6_assign_16 : decode cX6_assign 16 = .ok (.invokevirtual 212, 3) := by decide +kernel
theorem dX6_assign_19 : decode cX6_assign 19 = .ok (.aload_n 0, 1) := by decide +kernel
theorem dX6_assign_20 : decode cX6_assign 20 = .ok (.getfield 20, 3) := by decide +kernel
theorem dX6_assign_23 : decode cX6_assign 23 = .ok (.iload_n 1, 1) := by decide +kernel
theorem dX6_assign_24 : decode cX6_assign 24 = .ok (.invokevirtual 216, 3) := by decide +kernel
theorem dX6_assign_27 : decode cX6_assign 27 = .ok (.pop, 1) := by decide +kernel
theorem dX6_assign_28 : decode cX6_assign 28 = .ok (.aload_n 0, 1) := by decide +kernel
theorem dX6_assign_29 : decode cX6_assign 29 = .ok (.getfield 27, 3) := by decide +kernel
theorem dX6_assign_32 : decode cX6_assign 32 = .ok (.invokevirtual 219, 3) := by decide +kernel
theorem dX6_assign_35 : decode cX6_assign 35 = .ok (.invokestatic 223, 3) := by decide +kernel
theorem dX6_assign_38 : decode cX6_assign 38 = .ok (.ireturn, 1) := by decide +kernel
theorem dX6_repack_0 : decode cX6_repack 0 = .ok (.aload_n 0, 1) := by decide +kernel
theorem dX6_repack_1 : decode cX6_repack 1 = .ok (.iload_n 1, 1) := by decide +kernel
theorem dX6_repack_2 : decode cX6_repack 2 = .ok (.invokevirtual 202, 3) := by decide +kernel
theorem dX6_repack_5 : decode cX6_repack 5 = .ok (.aload_n 0, 1) := by decide +kernel
theorem dX6_repack_6 : decode cX6_repack 6 = .ok (.iload_n 1, 1) := by decide +kernel
theorem dX6_repack_7 : decode cX6_repack 7 = .ok (.invokevirtual 209, 3) := by decide +kernel
theorem dX6_repack_10 : decode cX6_repack 10 = .ok (.aload_n 0, 1) := by decide +kernel
theorem dX6_repack_11 : decode cX6_repack 11 = .ok (.getfield 20, 3) := by decide +kernel
theorem dX6_repack_14 : decode cX6_repack 14 = .ok (.iload_n 1, 1) := by decide +kernel
theorem dX6_repack_15 : decode cX6_repack 15 = .ok (.iconst 1, 1) := by decide +kernel
theorem dX6_repack_16 : decode cX6_repack 16 = .ok (.invokevirtual 212, 3) := by decide +kernel
theorem dX6_repack_19 : decode cX6_repack 19 = .ok (.aload_n 0, 1) := by decide +kernel
theorem dX6_repack_20 : decode cX6_repack 20 = .ok (.getfield 20, 3) := by decide +kernel
theorem dX6_repack_23 : decode cX6_repack 23 = .ok (.iload_n 1, 1) := by decide +kernel
theorem dX6_repack_24 : decode cX6_repack 24 = .ok (.invokevirtual 216, 3) := by decide +kernel
theorem dX6_repack_27 : decode cX6_repack 27 = .ok (.ireturn, 1) := by decide +kernel
theorem dX6_assignments_0 : decode cX6_assignments 0 = .ok (.aload_n 0, 1) := by decide +kernel
theorem dX6_assignments_1 : decode cX6_assignments 1 = .ok (.iload_n 1, 1) := by decide +kernel
theorem dX6_assignments_2 : decode cX6_assignments 2 = .ok (.invokevirtual 202, 3) := by decide +kernel
theorem dX6_assignments_5 : decode cX6_assignments 5 = .ok (.aload_n 0, 1) := by decide +kernel
theorem dX6_assignments_6 : decode cX6_assignments 6 = .ok (.getfield 20, 3) := by decide +kernel
theorem dX6_assignments_9 : decode cX6_assignments 9 = .ok (.aload_n 0, 1) := by decide +kernel
theorem dX6_assignments_10 : decode cX6_assignments 10 = .ok (.getfield 27, 3) := by decide +kernel
theorem dX6_assignments_13 : decode cX6_assignments 13 = .ok (.getfield 126, 3) := by decide +kernel
theorem dX6_assignments_16 : decode cX6_assignments 16 = .ok (.invokevirtual 228, 3) := by decide +kernel
theorem dX6_assignments_19 : decode cX6_assignments 19 = .ok (.aload_n 0, 1) := by decide +kernel
theorem dX6_assignments_20 : decode cX6_assignments 20 = .ok (.getfield 20, 3) := by decide +kernel
theorem dX6_assignments_23 : decode cX6_assignments 23 = .ok (.iload_n 1, 1) := by decide +kernel
theorem dX6_assignments_24 : decode cX6_assignments 24 = .ok (.sipush 1000, 3) := by decide +kernel
theorem dX6_assignments_27 : decode cX6_assignments 27 = .ok (.invokevirtual 231, 3) := by decide +kernel
theorem dX6_assignments_30 : decode cX6_assignments 30 = .ok (.ireturn, 1) := by decide +kernel
theorem dX6_channelsNeeded_0 : decode cX6_channelsNeeded 0 = .ok (.aload_n 0, 1) := by decide +kernel
theorem dX6_channelsNeeded_1 : decode cX6_channelsNeeded 1 = .ok (.iload_n 1, 1) := by decide +kernel
theorem dX6_channelsNeeded_2 : decode cX6_channelsNeeded 2 = .ok (.invokevirtual 202, 3) := by decide +kernel
theorem dX6_channelsNeeded_5 : decode cX6_channelsNeeded 5 = .ok (.aload_n 0, 1) := by decide +kernel
theorem dX6_channelsNeeded_6 : decode cX6_channelsNeeded 6 = .ok (.iload_n 1, 1) := by decide +kernel
theorem dX6_channelsNeeded_7 : decode cX6_channelsNeeded 7 = .ok (.invokevirtual 209, 3) := by decide +kernel
theorem dX6_channelsNeeded_10 : decode cX6_channelsNeeded 10 = .ok (.aload_n 0, 1) := by decide +kernel
theorem dX6_channelsNeeded_11 : decode cX6_channelsNeeded 11 = .ok (.getfield 20, 3) := by decide +kernel
theorem dX6_channelsNeeded_14 : decode cX6_channelsNeeded 14 = .ok (.iload_n 1, 1) := by decide +kernel
theorem dX6_channelsNeeded_15 : decode cX6_channelsNeeded 15 = .ok (.invokevirtual 234, 3) := by decide +kernel
theorem dX6_channelsNeeded_18 : decode cX6_channelsNeeded 18 = .ok (.ireturn, 1) := by decide +kernel
theorem dX6_core_0 : decode cX6_core 0 = .ok (.aload_n 0, 1) := by decide +kernel
theorem dX6_core_1 : decode cX6_core 1 = .ok (.iload_n 1, 1) := by decide +kernel
theorem dX6_core_2 : decode cX6_core 2 = .ok (.invokevirtual 113, 3) := by decide +kernel
theorem dX6_core_5 : decode cX6_core 5 = .ok (.aload_n 0, 1) := by decide +kernel
theorem dX6_core_6 : decode cX6_core 6 = .ok (.iload_n 2, 1) := by decide +kernel
theorem dX6_core_7 : decode cX6_core 7 = .ok (.invokevirtual 202, 3) := by decide +kernel
theorem dX6_core_10 : decode cX6_core 10 = .ok (.aload_n 0, 1) := by decide +kernel
theorem dX6_core_11 : decode cX6_core 11 = .ok (.getfield 20, 3) := by decide +kernel
theorem dX6_core_14 : decode cX6_core 14 = .ok (.iload_n 2, 1) := by decide +kernel
theorem dX6_core_15 : decode cX6_core 15 = .ok (.iconst 1, 1) := by decide +kernel
theorem dX6_core_16 : decode cX6_core 16 = .ok (.iload_n 1, 1) := by decide +kernel
theorem dX6_core_17 : decode cX6_core 17 = .ok (.ishl, 1) := by decide +kernel
theorem dX6_core_18 : decode cX6_core 18 = .ok (.ior, 1) := by decide +kernel
theorem dX6_core_19 : decode cX6_core 19 = .ok (.invokevirtual 205, 3) := by decide +kernel
theorem dX6_core_22 : decode cX6_core 22 = .ok (.ifCond .eq 13, 3) := by decide +kernel
theorem dX6_core_25 : decode cX6_core 25 = .ok (.new 237, 3) := by decide +kernel
theorem dX6_core_28 : decode cX6_core 28 = .ok (.dup, 1) := by decide +kernel
theorem dX6_core_29 : decode cX6_core 29 = .ok (.ldc 239, 2) := by decide +kernel
theorem dX6_core_31 : decode cX6_core 31 = .ok (.invokespecial 241, 3) := by decide +kernel
theorem dX6_core_34 : decode cX6_core 34 = .ok (.athrow, 1) := by decide +kernel
theorem dX6_core_35 : decode cX6_core 35 = .ok (.aload_n 0, 1) := by decide +kernel
theorem dX6_core_36 : decode cX6_core 36 = .ok (.getfield 20, 3) := by decide +kernel
theorem dX6_core_39 : decode cX6_core 39 = .ok (.iload_n 1, 1) := by decide +kernel
theorem dX6_core_40 : decode cX6_core 40 = .ok (.iload_n 2, 1) := by decide +kernel
theorem dX6_core_41 : decode cX6_core 41 = .ok (.invokevirtual 242, 3) := by decide +kernel
theorem dX6_core_44 : decode cX6_core 44 = .ok (.ireturn, 1) := by decide +kernel
theorem dX6_open_0 : decode cX6_open 0 = .ok (.iload_n 1, 1) := by decide +kernel
theorem dX6_open_1 : decode cX6_open 1 = .ok (.iconst 1, 1) := by decide +kernel
theorem dX6_open_2 : decode cX6_open 2 = .ok (.if_icmp .lt 10, 3) := by decide +kernel
theorem dX6_open_5 : decode cX6_open 5 = .ok (.iload_n 1, 1) := by decide +kernel
theorem dX6_open_6 : decode cX6_open 6 = .ok (.sipush 1000, 3) := by decide +kernel
theorem dX6_open_9 : decode cX6_open 9 = .ok (.if_icmp .le 13, 3) := by decide +kernel
theorem dX6_open_12 : decode cX6_open 12 = .ok (.new 83, 3) := by decide +kernel
theorem dX6_open_15 : decode cX6_open 15 = .ok (.dup, 1) := by decide +kernel
theorem dX6_open_16 : decode cX6_open 16 = .ok (.ldc 196, 2) := by decide +kernel
theorem dX6_open_18 : decode cX6_open 18 = .ok (.invokespecial 87, 3) := by decide +kernel
theorem dX6_open_21 : decode cX6_open 21 = .ok (.athrow, 1) := by decide +kernel
theorem dX6_open_22 : decode cX6_open 22 = .ok (.aload_n 0, 1) := by decide +kernel
theorem dX6_open_23 : decode cX6_open 23 = .ok (.invokevirtual 90, 3) := by decide +kernel
theorem dX6_open_26 : decode cX6_open 26 = .ok (.aload_n 0, 1) := by decide +kernel
theorem dX6_open_27 : decode cX6_open 27 = .ok (.aload_n 0, 1) := by decide +kernel
theorem dX6_open_28 : decode cX6_open 28 = .ok (.getfield 27, 3) := by decide +kernel
theorem dX6_open_31 : decode cX6_open 31 = .ok (.invokevirtual 245, 3) := by decide +kernel
theorem dX6_open_34 : decode cX6_open 34 = .ok (.invokevirtual 209, 3) := by decide +kernel
theorem dX6_open_37 : decode cX6_open 37 = .ok (.aload_n 0, 1) := by decide +kernel
theorem dX6_open_38 : decode cX6_open 38 = .ok (.getfield 51, 3) := by decide +kernel
theorem dX6_open_41 : decode cX6_open 41 = .ok (.aload_n 0, 1) := by decide +kernel
theorem dX6_open_42 : decode cX6_open 42 = .ok (.getfield 27, 3) := by decide +kernel
theorem dX6_open_45 : decode cX6_open 45 = .ok (.iload_n 1, 1) := by decide +kernel
theorem dX6_open_46 : decode cX6_open 46 = .ok (.invokevirtual 248, 3) := by decide +kernel
theorem dX6_open_49 : decode cX6_open 49 = .ok (.aload_n 0, 1) := by decide +kernel
theorem dX6_open_50 : decode cX6_open 50 = .ok (.invokevirtual 252, 3) := by decide +kernel
theorem dX6_open_53 : decode cX6_open 53 = .ok (.aload_n 0, 1) := by decide +kernel
theorem dX6_open_54 : decode cX6_open 54 = .ok (.getfield 51, 3) := by decide +kernel
theorem dX6_open_57 : decode cX6_open 57 = .ok (.getfield 255, 3) := by decide +kernel
theorem dX6_open_60 : decode cX6_open 60 = .ok (.invokestatic 223, 3) := by decide +kernel
theorem dX6_open_63 : decode cX6_open 63 = .ok (.ireturn, 1) := by decide +kernel
theorem dX6_round_0 : decode cX6_round 0 = .ok (.aload_n 0, 1) := by decide +kernel
theorem dX6_round_1 : decode cX6_round 1 = .ok (.iload_n 1, 1) := by decide +kernel
theorem dX6_round_2 : decode cX6_round 2 = .ok (.invokevirtual 258, 3) := by decide +kernel
theorem dX6_round_5 : decode cX6_round 5 = .ok (.aload_n 0, 1) := by decide +kernel
theorem dX6_round_6 : decode cX6_round 6 = .ok (.invokevirtual 261, 3) := by decide +kernel
theorem dX6_round_9 : decode cX6_round 9 = .ok (.aload_n 0, 1) := by decide +kernel
theorem dX6_round_10 : decode cX6_round 10 = .ok (.getfield 51, 3) := by decide +kernel
theorem dX6_round_13 : decode cX6_round 13 = .ok (.invokevirtual 264, 3) := by decide +kernel
theorem dX6_round_16 : decode cX6_round 16 = .ok (.ifCond .eq 14, 3) := by decide +kernel
theorem dX6_round_19 : decode cX6_round 19 = .ok (.new 96, 3) := by decide +kernel
theorem dX6_round_22 : decode cX6_round 22 = .ok (.dup, 1) := by decide +kernel
theorem dX6_round_23 : decode cX6_round 23 = .ok (.ldc_w 268, 3) := by decide +kernel
theorem dX6_round_26 : decode cX6_round 26 = .ok (.invokespecial 100, 3) := by decide +kernel
theorem dX6_round_29 : decode cX6_round 29 = .ok (.athrow, 1) := by decide +kernel
theorem dX6_round_30 : decode cX6_round 30 = .ok (.aload_n 0, 1) := by decide +kernel
theorem dX6_round_31 : decode cX6_round 31 = .ok (.getfield 51, 3) := by decide +kernel
theorem dX6_round_34 : decode cX6_round 34 = .ok (.iload_n 1, 1) := by decide +kernel
theorem dX6_round_35 : decode cX6_round 35 = .ok (.invokevirtual 270, 3) := by decide +kernel
theorem dX6_round_38 : decode cX6_round 38 = .ok (.aload_n 0, 1) := by decide +kernel
theorem dX6_round_39 : decode cX6_round 39 = .ok (.invokevirtual 252, 3) := by decide +kernel
theorem dX6_round_42 : decode cX6_round 42 = .ok (.aload_n 0, 1) := by decide +kernel
theorem dX6_round_43 : decode cX6_round 43 = .ok (.getfield 51, 3) := by decide +kernel
theorem dX6_round_46 : decode cX6_round 46 = .ok (.getfield 255, 3) := by decide +kernel
theorem dX6_round_49 : decode cX6_round 49 = .ok (.invokestatic 223, 3) := by decide +kernel
theorem dX6_round_52 : decode cX6_round 52 = .ok (.ireturn, 1) := by decide +kernel
theorem dX6_run_0 : decode cX6_run 0 = .ok (.aload_n 0, 1) := by decide +kernel
theorem dX6_run_1 : decode cX6_run 1 = .ok (.iload_n 1, 1) := by decide +kernel
theorem dX6_run_2 : decode cX6_run 2 = .ok (.invokevirtual 258, 3) := by decide +kernel
theorem dX6_run_5 : decode cX6_run 5 = .ok (.aload_n 0, 1) := by decide +kernel
theorem dX6_run_6 : decode cX6_run 6 = .ok (.invokevirtual 261, 3) := by decide +kernel
theorem dX6_run_9 : decode cX6_run 9 = .ok (.iconst 0, 1) := by decide +kernel
theorem dX6_run_10 : decode cX6_run 10 = .ok (.istore_n 2, 1) := by decide +kernel
theorem dX6_run_11 : decode cX6_run 11 = .ok (.iload_n 2, 1) := by decide +kernel
theorem dX6_run_12 : decode cX6_run 12 = .ok (.bipush 101, 2) := by decide +kernel
theorem dX6_run_14 : decode cX6_run 14 = .ok (.if_icmp .ge 31, 3) := by decide +kernel
theorem dX6_run_17 : decode cX6_run 17 = .ok (.aload_n 0, 1) := by decide +kernel
theorem dX6_run_18 : decode cX6_run 18 = .ok (.getfield 51, 3) := by decide +kernel
theorem dX6_run_21 : decode cX6_run 21 = .ok (.invokevirtual 264, 3) := by decide +kernel
theorem dX6_run_24 : decode cX6_run 24 = .ok (.ifCond .ne 21, 3) := by decide +kernel
theorem dX6_run_27 : decode cX6_run 27 = .ok (.aload_n 0, 1) := by decide +kernel
theorem dX6_run_28 : decode cX6_run 28 = .ok (.getfield 51, 3) := by decide +kernel
theorem dX6_run_31 : decode cX6_run 31 = .ok (.iload_n 1, 1) := by decide +kernel
theorem dX6_run_32 : decode cX6_run 32 = .ok (.invokevirtual 270, 3) := by decide +kernel
theorem dX6_run_35 : decode cX6_run 35 = .ok (.aload_n 0, 1) := by decide +kernel
theorem dX6_run_36 : decode cX6_run 36 = .ok (.invokevirtual 252, 3) := by decide +kernel
theorem dX6_run_39 : decode cX6_run 39 = .ok (.iinc 2 1, 3) := by decide +kernel
theorem dX6_run_42 : decode cX6_run 42 = .ok (.goto (-31), 3) := by decide +kernel
theorem dX6_run_45 : decode cX6_run 45 = .ok (.iload_n 2, 1) := by decide +kernel
theorem dX6_run_46 : decode cX6_run 46 = .ok (.ireturn, 1) := by decide +kernel
theorem dX6_back_0 : decode cX6_back 0 = .ok (.aload_n 0, 1) := by decide +kernel
theorem dX6_back_1 : decode cX6_back 1 = .ok (.invokevirtual 261, 3) := by decide +kernel
theorem dX6_back_4 : decode cX6_back 4 = .ok (.iload_n 1, 1) := by decide +kernel
theorem dX6_back_5 : decode cX6_back 5 = .ok (.ifCond .lt 14, 3) := by decide +kernel
theorem dX6_back_8 : decode cX6_back 8 = .ok (.iload_n 1, 1) := by decide +kernel
theorem dX6_back_9 : decode cX6_back 9 = .ok (.aload_n 0, 1) := by decide +kernel
theorem dX6_back_10 : decode cX6_back 10 = .ok (.getfield 51, 3) := by decide +kernel
theorem dX6_back_13 : decode cX6_back 13 = .ok (.getfield 273, 3) := by decide +kernel
theorem dX6_back_16 : decode cX6_back 16 = .ok (.if_icmp .le 14, 3) := by decide +kernel
theorem dX6_back_19 : decode cX6_back 19 = .ok (.new 164, 3) := by decide +kernel
theorem dX6_back_22 : decode cX6_back 22 = .ok (.dup, 1) := by decide +kernel
theorem dX6_back_23 : decode cX6_back 23 = .ok (.ldc_w 276, 3) := by decide +kernel
theorem dX6_back_26 : decode cX6_back 26 = .ok (.invokespecial 168, 3) := by decide +kernel
theorem dX6_back_29 : decode cX6_back 29 = .ok (.athrow, 1) := by decide +kernel
theorem dX6_back_30 : decode cX6_back 30 = .ok (.aload_n 0, 1) := by decide +kernel
theorem dX6_back_31 : decode cX6_back 31 = .ok (.getfield 51, 3) := by decide +kernel
theorem dX6_back_34 : decode cX6_back 34 = .ok (.iload_n 1, 1) := by decide +kernel
theorem dX6_back_35 : decode cX6_back 35 = .ok (.aload_n 0, 1) := by decide +kernel
theorem dX6_back_36 : decode cX6_back 36 = .ok (.getfield 27, 3) := by decide +kernel
theorem dX6_back_39 : decode cX6_back 39 = .ok (.invokevirtual 278, 3) := by decide +kernel
theorem dX6_back_42 : decode cX6_back 42 = .ok (.aload_n 0, 1) := by decide +kernel
theorem dX6_back_43 : decode cX6_back 43 = .ok (.getfield 51, 3) := by decide +kernel
theorem dX6_back_46 : decode cX6_back 46 = .ok (.getfield 255, 3) := by decide +kernel
theorem dX6_back_49 : decode cX6_back 49 = .ok (.invokestatic 223, 3) := by decide +kernel
theorem dX6_back_52 : decode cX6_back 52 = .ok (.ireturn, 1) := by decide +kernel
theorem dX6_close_0 : decode cX6_close 0 = .ok (.aload_n 0, 1) := by decide +kernel
theorem dX6_close_1 : decode cX6_close 1 = .ok (.invokevirtual 282, 3) := by decide +kernel
theorem dX6_close_4 : decode cX6_close 4 = .ok (.aload_n 0, 1) := by decide +kernel
theorem dX6_close_5 : decode cX6_close 5 = .ok (.getfield 20, 3) := by decide +kernel
theorem dX6_close_8 : decode cX6_close 8 = .ok (.aload_n 0, 1) := by decide +kernel
theorem dX6_close_9 : decode cX6_close 9 = .ok (.getfield 51, 3) := by decide +kernel
theorem dX6_close_12 : decode cX6_close 12 = .ok (.getfield 285, 3) := by decide +kernel
theorem dX6_close_15 : decode cX6_close 15 = .ok (.iconst 0, 1) := by decide +kernel
theorem dX6_close_16 : decode cX6_close 16 = .ok (.invokevirtual 212, 3) := by decide +kernel
theorem dX6_close_19 : decode cX6_close 19 = .ok (.aload_n 0, 1) := by decide +kernel
theorem dX6_close_20 : decode cX6_close 20 = .ok (.getfield 20, 3) := by decide +kernel
theorem dX6_close_23 : decode cX6_close 23 = .ok (.aload_n 0, 1) := by decide +kernel
theorem dX6_close_24 : decode cX6_close 24 = .ok (.getfield 51, 3) := by decide +kernel
theorem dX6_close_27 : decode cX6_close 27 = .ok (.getfield 285, 3) := by decide +kernel
theorem dX6_close_30 : decode cX6_close 30 = .ok (.invokevirtual 216, 3) := by decide +kernel
theorem dX6_close_33 : decode cX6_close 33 = .ok (.pop, 1) := by decide +kernel
theorem dX6_close_34 : decode cX6_close 34 = .ok (.aload_n 0, 1) := by decide +kernel
theorem dX6_close_35 : decode cX6_close 35 = .ok (.getfield 51, 3) := by decide +kernel
theorem dX6_close_38 : decode cX6_close 38 = .ok (.iconst 0, 1) := by decide +kernel
theorem dX6_close_39 : decode cX6_close 39 = .ok (.putfield 288, 3) := by decide +kernel
theorem dX6_close_42 : decode cX6_close 42 = .ok (.aload_n 0, 1) := by decide +kernel
theorem dX6_close_43 : decode cX6_close 43 = .ok (.getfield 51, 3) := by decide +kernel
theorem dX6_close_46 : decode cX6_close 46 = .ok (.getfield 285, 3) := by decide +kernel
theorem dX6_close_49 : decode cX6_close 49 = .ok (.invokestatic 223, 3) := by decide +kernel
theorem dX6_close_52 : decode cX6_close 52 = .ok (.ireturn, 1) := by decide +kernel
theorem dX6_cancel_0 : decode cX6_cancel 0 = .ok (.aload_n 0, 1) := by decide +kernel
theorem dX6_cancel_1 : decode cX6_cancel 1 = .ok (.invokevirtual 261, 3) := by decide +kernel
theorem dX6_cancel_4 : decode cX6_cancel 4 = .ok (.aload_n 0, 1) := by decide +kernel
theorem dX6_cancel_5 : decode cX6_cancel 5 = .ok (.getfield 51, 3) := by decide +kernel
theorem dX6_cancel_8 : decode cX6_cancel 8 = .ok (.iconst 0, 1) := by decide +kernel
theorem dX6_cancel_9 : decode cX6_cancel 9 = .ok (.putfield 288, 3) := by decide +kernel
theorem dX6_cancel_12 : decode cX6_cancel 12 = .ok (.aload_n 0, 1) := by decide +kernel
theorem dX6_cancel_13 : decode cX6_cancel 13 = .ok (.getfield 51, 3) := by decide +kernel
theorem dX6_cancel_16 : decode cX6_cancel 16 = .ok (.getfield 273, 3) := by decide +kernel
theorem dX6_cancel_19 : decode cX6_cancel 19 = .ok (.ireturn, 1) := by decide +kernel
theorem dX6_state_0 : decode cX6_state 0 = .ok (.aload_n 0, 1) := by decide +kernel
theorem dX6_state_1 : decode cX6_state 1 = .ok (.iload_n 1, 1) := by decide +kernel
theorem dX6_state_2 : decode cX6_state 2 = .ok (.invokevirtual 113, 3) := by decide +kernel
theorem dX6_state_5 : decode cX6_state 5 = .ok (.aload_n 0, 1) := by decide +kernel
theorem dX6_state_6 : decode cX6_state 6 = .ok (.invokevirtual 261, 3) := by decide +kernel
theorem dX6_state_9 : decode cX6_state 9 = .ok (.aload_n 0, 1) := by decide +kernel
theorem dX6_state_10 : decode cX6_state 10 = .ok (.getfield 51, 3) := by decide +kernel
theorem dX6_state_13 : decode cX6_state 13 = .ok (.getfield 255, 3) := by decide +kernel
theorem dX6_state_16 : decode cX6_state 16 = .ok (.iload_n 1, 1) := by decide +kernel
theorem dX6_state_17 : decode cX6_state 17 = .ok (.invokestatic 119, 3) := by decide +kernel
theorem dX6_state_20 : decode cX6_state 20 = .ok (.ifCond .eq 5, 3) := by decide +kernel
theorem dX6_state_23 : decode cX6_state 23 = .ok (.iconst 1, 1) := by decide +kernel
theorem dX6_state_24 : decode cX6_state 24 = .ok (.ireturn, 1) := by decide +kernel
theorem dX6_state_25 : decode cX6_state 25 = .ok (.aload_n 0, 1) := by decide +kernel
theorem dX6_state_26 : decode cX6_state 26 = .ok (.getfield 51, 3) := by decide +kernel
theorem dX6_state_29 : decode cX6_state 29 = .ok (.getfield 291, 3) := by decide +kernel
theorem dX6_state_32 : decode cX6_state 32 = .ok (.iload_n 1, 1) := by decide +kernel
theorem dX6_state_33 : decode cX6_state 33 = .ok (.invokestatic 119, 3) := by decide +kernel
theorem dX6_state_36 : decode cX6_state 36 = .ok (.ifCond .eq 7, 3) := by decide +kernel
theorem dX6_state_39 : decode cX6_state 39 = .ok (.iconst 2, 1) := by decide +kernel
theorem dX6_state_40 : decode cX6_state 40 = .ok (.goto 4, 3) := by decide +kernel
theorem dX6_state_43 : decode cX6_state 43 = .ok (.iconst 0, 1) := by decide +kernel
theorem dX6_state_44 : decode cX6_state 44 = .ok (.ireturn, 1) := by decide +kernel
theorem dX6_price_0 : decode cX6_price 0 = .ok (.aload_n 0, 1) := by decide +kernel
theorem dX6_price_1 : decode cX6_price 1 = .ok (.iload_n 1, 1) := by decide +kernel
theorem dX6_price_2 : decode cX6_price 2 = .ok (.invokevirtual 113, 3) := by decide +kernel
theorem dX6_price_5 : decode cX6_price 5 = .ok (.aload_n 0, 1) := by decide +kernel
theorem dX6_price_6 : decode cX6_price 6 = .ok (.invokevirtual 261, 3) := by decide +kernel
theorem dX6_price_9 : decode cX6_price 9 = .ok (.aload_n 0, 1) := by decide +kernel
theorem dX6_price_10 : decode cX6_price 10 = .ok (.getfield 27, 3) := by decide +kernel
theorem dX6_price_13 : decode cX6_price 13 = .ok (.getfield 116, 3) := by decide +kernel
theorem dX6_price_16 : decode cX6_price 16 = .ok (.iload_n 1, 1) := by decide +kernel
theorem dX6_price_17 : decode cX6_price 17 = .ok (.invokestatic 119, 3) := by decide +kernel
theorem dX6_price_20 : decode cX6_price 20 = .ok (.ifCond .ne 14, 3) := by decide +kernel
theorem dX6_price_23 : decode cX6_price 23 = .ok (.new 237, 3) := by decide +kernel
theorem dX6_price_26 : decode cX6_price 26 = .ok (.dup, 1) := by decide +kernel
theorem dX6_price_27 : decode cX6_price 27 = .ok (.ldc_w 294, 3) := by decide +kernel
theorem dX6_price_30 : decode cX6_price 30 = .ok (.invokespecial 241, 3) := by decide +kernel
theorem dX6_price_33 : decode cX6_price 33 = .ok (.athrow, 1) := by decide +kernel
theorem dX6_price_34 : decode cX6_price 34 = .ok (.aload_n 0, 1) := by decide +kernel
theorem dX6_price_35 : decode cX6_price 35 = .ok (.getfield 51, 3) := by decide +kernel
theorem dX6_price_38 : decode cX6_price 38 = .ok (.getfield 296, 3) := by decide +kernel
theorem dX6_price_41 : decode cX6_price 41 = .ok (.iload_n 1, 1) := by decide +kernel
theorem dX6_price_42 : decode cX6_price 42 = .ok (.iaload, 1) := by decide +kernel
theorem dX6_price_43 : decode cX6_price 43 = .ok (.ireturn, 1) := by decide +kernel
theorem dX6_frozenBy_0 : decode cX6_frozenBy 0 = .ok (.aload_n 0, 1) := by decide +kernel
theorem dX6_frozenBy_1 : decode cX6_frozenBy 1 = .ok (.iload_n 1, 1) := by decide +kernel
theorem dX6_frozenBy_2 : decode cX6_frozenBy 2 = .ok (.invokevirtual 113, 3) := by decide +kernel
theorem dX6_frozenBy_5 : decode cX6_frozenBy 5 = .ok (.aload_n 0, 1) := by decide +kernel
theorem dX6_frozenBy_6 : decode cX6_frozenBy 6 = .ok (.invokevirtual 261, 3) := by decide +kernel
theorem dX6_frozenBy_9 : decode cX6_frozenBy 9 = .ok (.aload_n 0, 1) := by decide +kernel
theorem dX6_frozenBy_10 : decode cX6_frozenBy 10 = .ok (.getfield 51, 3) := by decide +kernel
theorem dX6_frozenBy_13 : decode cX6_frozenBy 13 = .ok (.getfield 291, 3) := by decide +kernel
theorem dX6_frozenBy_16 : decode cX6_frozenBy 16 = .ok (.iload_n 1, 1) := by decide +kernel
theorem dX6_frozenBy_17 : decode cX6_frozenBy 17 = .ok (.invokestatic 119, 3) := by decide +kernel
theorem dX6_frozenBy_20 : decode cX6_frozenBy 20 = .ok (.ifCond .eq 16, 3) := by decide +kernel
theorem dX6_frozenBy_23 : decode cX6_frozenBy 23 = .ok (.aload_n 0, 1) := by decide +kernel
theorem dX6_frozenBy_24 : decode cX6_frozenBy 24 = .ok (.getfield 51, 3) := by decide +kernel
theorem dX6_frozenBy_27 : decode cX6_frozenBy 27 = .ok (.getfield 299, 3) := by decide +kernel
theorem dX6_frozenBy_30 : decode cX6_frozenBy 30 = .ok (.iload_n 1, 1) := by decide +kernel
theorem dX6_frozenBy_31 : decode cX6_frozenBy 31 = .ok (.iaload, 1) := by decide +kernel
theorem dX6_frozenBy_32 : decode cX6_frozenBy 32 = .ok (.iconst (-1), 1) := by decide +kernel
theorem dX6_frozenBy_33 : decode cX6_frozenBy 33 = .ok (.if_icmp .ne 14, 3) := by decide +kernel
theorem dX6_frozenBy_36 : decode cX6_frozenBy 36 = .ok (.new 237, 3) := by decide +kernel
theorem dX6_frozenBy_39 : decode cX6_frozenBy 39 = .ok (.dup, 1) := by decide +kernel
theorem dX6_frozenBy_40 : decode cX6_frozenBy 40 = .ok (.ldc_w 302, 3) := by decide +kernel
theorem dX6_frozenBy_43 : decode cX6_frozenBy 43 = .ok (.invokespecial 241, 3) := by decide +kernel
theorem dX6_frozenBy_46 : decode cX6_frozenBy 46 = .ok (.athrow, 1) := by decide +kernel
theorem dX6_frozenBy_47 : decode cX6_frozenBy 47 = .ok (.aload_n 0, 1) := by decide +kernel
theorem dX6_frozenBy_48 : decode cX6_frozenBy 48 = .ok (.getfield 20, 3) := by decide +kernel
theorem dX6_frozenBy_51 : decode cX6_frozenBy 51 = .ok (.iload_n 1, 1) := by decide +kernel
theorem dX6_frozenBy_52 : decode cX6_frozenBy 52 = .ok (.aload_n 0, 1) := by decide +kernel
theorem dX6_frozenBy_53 : decode cX6_frozenBy 53 = .ok (.getfield 51, 3) := by decide +kernel
theorem dX6_frozenBy_56 : decode cX6_frozenBy 56 = .ok (.getfield 299, 3) := by decide +kernel
theorem dX6_frozenBy_59 : decode cX6_frozenBy 59 = .ok (.iload_n 1, 1) := by decide +kernel
theorem dX6_frozenBy_60 : decode cX6_frozenBy 60 = .ok (.iaload, 1) := by decide +kernel
theorem dX6_frozenBy_61 : decode cX6_frozenBy 61 = .ok (.invokevirtual 242, 3) := by decide +kernel
theorem dX6_frozenBy_64 : decode cX6_frozenBy 64 = .ok (.ireturn, 1) := by decide +kernel
theorem dX6_auction_0 : decode cX6_auction 0 = .ok (.iload_n 1, 1) := by decide +kernel
theorem dX6_auction_1 : decode cX6_auction 1 = .ok (.ifCond .lt 9, 3) := by decide +kernel
theorem dX6_auction_4 : decode cX6_auction 4 = .ok (.iload_n 1, 1) := by decide +kernel
theorem dX6_auction_5 : decode cX6_auction 5 = .ok (.bipush 6, 2) := by decide +kernel
theorem dX6_auction_7 : decode cX6_auction 7 = .ok (.if_icmp .le 14, 3) := by decide +kernel
theorem dX6_auction_10 : decode cX6_auction 10 = .ok (.new 83, 3) := by decide +kernel
theorem dX6_auction_13 : decode cX6_auction 13 = .ok (.dup, 1) := by decide +kernel
theorem dX6_auction_14 : decode cX6_auction 14 = .ok (.ldc_w 304, 3) := by decide +kernel
theorem dX6_auction_17 : decode cX6_auction 17 = .ok (.invokespecial 87, 3) := by decide +kernel
theorem dX6_auction_20 : decode cX6_auction 20 = .ok (.athrow, 1) := by decide +kernel
theorem dX6_auction_21 : decode cX6_auction 21 = .ok (.aload_n 0, 1) := by decide +kernel
theorem dX6_auction_22 : decode cX6_auction 22 = .ok (.invokevirtual 261, 3) := by decide +kernel
theorem dX6_auction_25 : decode cX6_auction 25 = .ok (.iload_n 1, 1) := by decide +kernel
theorem dX6_auction_26 : decode cX6_auction 26 = .ok (.tableswitch 104 0 5 #[38, 46, 62, 70, 78, 86], 38) := by decide +kernel
theorem dX6_auction_64 : decode cX6_auction 64 = .ok (.aload_n 0, 1) := by decide +kernel
theorem dX6_auction_65 : decode cX6_auction 65 = .ok (.getfield 51, 3) := by decide +kernel
theorem dX6_auction_68 : decode cX6_auction 68 = .ok (.getfield 273, 3) := by decide +kernel
theorem dX6_auction_71 : decode cX6_auction 71 = .ok (.ireturn, 1) := by decide +kernel
theorem dX6_auction_72 : decode cX6_auction 72 = .ok (.aload_n 0, 1) := by decide +kernel
theorem dX6_auction_73 : decode cX6_auction 73 = .ok (.getfield 51, 3) := by decide +kernel
theorem dX6_auction_76 : decode cX6_auction 76 = .ok (.getfield 306, 3) := by decide +kernel
theorem dX6_auction_79 : decode cX6_auction 79 = .ok (.aload_n 0, 1) := by decide +kernel
theorem dX6_auction_80 : decode cX6_auction 80 = .ok (.getfield 51, 3) := by decide +kernel
theorem dX6_auction_83 : decode cX6_auction 83 = .ok (.getfield 273, 3) := by decide +kernel
theorem dX6_auction_86 : decode cX6_auction 86 = .ok (.iaload, 1) := by decide +kernel
theorem dX6_auction_87 : decode cX6_auction 87 = .ok (.ireturn, 1) := by decide +kernel
theorem dX6_auction_88 : decode cX6_auction 88 = .ok (.aload_n 0, 1) := by decide +kernel
theorem dX6_auction_89 : decode cX6_auction 89 = .ok (.getfield 51, 3) := by decide +kernel
theorem dX6_auction_92 : decode cX6_auction 92 = .ok (.getfield 285, 3) := by decide +kernel
theorem dX6_auction_95 : decode cX6_auction 95 = .ok (.ireturn, 1) := by decide +kernel
theorem dX6_auction_96 : decode cX6_auction 96 = .ok (.aload_n 0, 1) := by decide +kernel
theorem dX6_auction_97 : decode cX6_auction 97 = .ok (.getfield 51, 3) := by decide +kernel
theorem dX6_auction_100 : decode cX6_auction 100 = .ok (.getfield 255, 3) := by decide +kernel
theorem dX6_auction_103 : decode cX6_auction 103 = .ok (.ireturn, 1) := by decide +kernel
theorem dX6_auction_104 : decode cX6_auction 104 = .ok (.aload_n 0, 1) := by decide +kernel
theorem dX6_auction_105 : decode cX6_auction 105 = .ok (.getfield 51, 3) := by decide +kernel
theorem dX6_auction_108 : decode cX6_auction 108 = .ok (.getfield 291, 3) := by decide +kernel
theorem dX6_auction_111 : decode cX6_auction 111 = .ok (.ireturn, 1) := by decide +kernel
theorem dX6_auction_112 : decode cX6_auction 112 = .ok (.aload_n 0, 1) := by decide +kernel
theorem dX6_auction_113 : decode cX6_auction 113 = .ok (.getfield 51, 3) := by decide +kernel
theorem dX6_auction_116 : decode cX6_auction 116 = .ok (.getfield 296, 3) := by decide +kernel
theorem dX6_auction_119 : decode cX6_auction 119 = .ok (.aload_n 0, 1) := by decide +kernel
theorem dX6_auction_120 : decode cX6_auction 120 = .ok (.getfield 51, 3) := by decide +kernel
theorem dX6_auction_123 : decode cX6_auction 123 = .ok (.getfield 291, 3) := by decide +kernel
theorem dX6_auction_126 : decode cX6_auction 126 = .ok (.invokestatic 309, 3) := by decide +kernel
theorem dX6_auction_129 : decode cX6_auction 129 = .ok (.ireturn, 1) := by decide +kernel
theorem dX6_auction_130 : decode cX6_auction 130 = .ok (.aload_n 0, 1) := by decide +kernel
theorem dX6_auction_131 : decode cX6_auction 131 = .ok (.getfield 27, 3) := by decide +kernel
theorem dX6_auction_134 : decode cX6_auction 134 = .ok (.getfield 123, 3) := by decide +kernel
theorem dX6_auction_137 : decode cX6_auction 137 = .ok (.aload_n 0, 1) := by decide +kernel
theorem dX6_auction_138 : decode cX6_auction 138 = .ok (.getfield 51, 3) := by decide +kernel
theorem dX6_auction_141 : decode cX6_auction 141 = .ok (.getfield 291, 3) := by decide +kernel
theorem dX6_auction_144 : decode cX6_auction 144 = .ok (.invokestatic 309, 3) := by decide +kernel
theorem dX6_auction_147 : decode cX6_auction 147 = .ok (.ireturn, 1) := by decide +kernel
theorem dX6_event_0 : decode cX6_event 0 = .ok (.aload_n 0, 1) := by decide +kernel
theorem dX6_event_1 : decode cX6_event 1 = .ok (.invokevirtual 261, 3) := by decide +kernel
theorem dX6_event_4 : decode cX6_event 4 = .ok (.iload_n 1, 1) := by decide +kernel
theorem dX6_event_5 : decode cX6_event 5 = .ok (.ifCond .lt 14, 3) := by decide +kernel
theorem dX6_event_8 : decode cX6_event 8 = .ok (.iload_n 1, 1) := by decide +kernel
theorem dX6_event_9 : decode cX6_event 9 = .ok (.aload_n 0, 1) := by decide +kernel
theorem dX6_event_10 : decode cX6_event 10 = .ok (.getfield 51, 3) := by decide +kernel
theorem dX6_event_13 : decode cX6_event 13 = .ok (.getfield 313, 3) := by decide +kernel
theorem dX6_event_16 : decode cX6_event 16 = .ok (.if_icmp .lt 14, 3) := by decide +kernel
theorem dX6_event_19 : decode cX6_event 19 = .ok (.new 237, 3) := by decide +kernel
theorem dX6_event_22 : decode cX6_event 22 = .ok (.dup, 1) := by decide +kernel
theorem dX6_event_23 : decode cX6_event 23 = .ok (.ldc_w 316, 3) := by decide +kernel
theorem dX6_event_26 : decode cX6_event 26 = .ok (.invokespecial 241, 3) := by decide +kernel
theorem dX6_event_29 : decode cX6_event 29 = .ok (.athrow, 1) := by decide +kernel
theorem dX6_event_30 : decode cX6_event 30 = .ok (.aload_n 0, 1) := by decide +kernel
theorem dX6_event_31 : decode cX6_event 31 = .ok (.getfield 51, 3) := by decide +kernel
theorem dX6_event_34 : decode cX6_event 34 = .ok (.getfield 318, 3) := by decide +kernel
theorem dX6_event_37 : decode cX6_event 37 = .ok (.iload_n 1, 1) := by decide +kernel
theorem dX6_event_38 : decode cX6_event 38 = .ok (.iaload, 1) := by decide +kernel
theorem dX6_event_39 : decode cX6_event 39 = .ok (.ireturn, 1) := by decide +kernel
theorem dX6_order_0 : decode cX6_order 0 = .ok (.aload_n 0, 1) := by decide +kernel
theorem dX6_order_1 : decode cX6_order 1 = .ok (.invokevirtual 321, 3) := by decide +kernel
theorem dX6_order_4 : decode cX6_order 4 = .ok (.istore_n 2, 1) := by decide +kernel
theorem dX6_order_5 : decode cX6_order 5 = .ok (.iload_n 1, 1) := by decide +kernel
theorem dX6_order_6 : decode cX6_order 6 = .ok (.ifCond .lt 8, 3) := by decide +kernel
theorem dX6_order_9 : decode cX6_order 9 = .ok (.iload_n 1, 1) := by decide +kernel
theorem dX6_order_10 : decode cX6_order 10 = .ok (.iload_n 2, 1) := by decide +kernel
theorem dX6_order_11 : decode cX6_order 11 = .ok (.if_icmp .lt 14, 3) := by decide +kernel
theorem dX6_order_14 : decode cX6_order 14 = .ok (.new 237, 3) := by decide +kernel
theorem dX6_order_17 : decode cX6_order 17 = .ok (.dup, 1) := by decide +kernel
theorem dX6_order_18 : decode cX6_order 18 = .ok (.ldc_w 324, 3) := by decide +kernel
theorem dX6_order_21 : decode cX6_order 21 = .ok (.invokespecial 241, 3) := by decide +kernel
theorem dX6_order_24 : decode cX6_order 24 = .ok (.athrow, 1) := by decide +kernel
theorem dX6_order_25 : decode cX6_order 25 = .ok (.aload_n 0, 1) := by decide +kernel
theorem dX6_order_26 : decode cX6_order 26 = .ok (.getfield 64, 3) := by decide +kernel
theorem dX6_order_29 : decode cX6_order 29 = .ok (.iload_n 1, 1) := by decide +kernel
theorem dX6_order_30 : decode cX6_order 30 = .ok (.iaload, 1) := by decide +kernel
theorem dX6_order_31 : decode cX6_order 31 = .ok (.ireturn, 1) := by decide +kernel
theorem dX6_best_0 : decode cX6_best 0 = .ok (.aload_n 0, 1) := by decide +kernel
theorem dX6_best_1 : decode cX6_best 1 = .ok (.aload_n 0, 1) := by decide +kernel
theorem dX6_best_2 : decode cX6_best 2 = .ok (.getfield 27, 3) := by decide +kernel
theorem dX6_best_5 : decode cX6_best 5 = .ok (.invokevirtual 245, 3) := by decide +kernel
theorem dX6_best_8 : decode cX6_best 8 = .ok (.invokevirtual 209, 3) := by decide +kernel
theorem dX6_best_11 : decode cX6_best 11 = .ok (.aload_n 0, 1) := by decide +kernel
theorem dX6_best_12 : decode cX6_best 12 = .ok (.getfield 12, 3) := by decide +kernel
theorem dX6_best_15 : decode cX6_best 15 = .ok (.invokevirtual 326, 3) := by decide +kernel
theorem dX6_best_18 : decode cX6_best 18 = .ok (.ireturn, 1) := by decide +kernel
theorem dX6_leastLoss_0 : decode cX6_leastLoss 0 = .ok (.aload_n 0, 1) := by decide +kernel
theorem dX6_leastLoss_1 : decode cX6_leastLoss 1 = .ok (.aload_n 0, 1) := by decide +kernel
theorem dX6_leastLoss_2 : decode cX6_leastLoss 2 = .ok (.getfield 27, 3) := by decide +kernel
theorem dX6_leastLoss_5 : decode cX6_leastLoss 5 = .ok (.invokevirtual 245, 3) := by decide +kernel
theorem dX6_leastLoss_8 : decode cX6_leastLoss 8 = .ok (.invokevirtual 209, 3) := by decide +kernel
theorem dX6_leastLoss_11 : decode cX6_leastLoss 11 = .ok (.aload_n 0, 1) := by decide +kernel
theorem dX6_leastLoss_12 : decode cX6_leastLoss 12 = .ok (.aload_n 0, 1) := by decide +kernel
theorem dX6_leastLoss_13 : decode cX6_leastLoss 13 = .ok (.getfield 12, 3) := by decide +kernel
theorem dX6_leastLoss_16 : decode cX6_leastLoss 16 = .ok (.invokevirtual 326, 3) := by decide +kernel
theorem dX6_leastLoss_19 : decode cX6_leastLoss 19 = .ok (.invokevirtual 329, 3) := by decide +kernel
theorem dX6_leastLoss_22 : decode cX6_leastLoss 22 = .ok (.ireturn, 1) := by decide +kernel
theorem dX6_efficiencyBits_0 : decode cX6_efficiencyBits 0 = .ok (.aload_n 0, 1) := by decide +kernel
theorem dX6_efficiencyBits_1 : decode cX6_efficiencyBits 1 = .ok (.invokevirtual 282, 3) := by decide +kernel
theorem dX6_efficiencyBits_4 : decode cX6_efficiencyBits 4 = .ok (.aload_n 0, 1) := by decide +kernel
theorem dX6_efficiencyBits_5 : decode cX6_efficiencyBits 5 = .ok (.getfield 27, 3) := by decide +kernel
theorem dX6_efficiencyBits_8 : decode cX6_efficiencyBits 8 = .ok (.getfield 123, 3) := by decide +kernel
theorem dX6_efficiencyBits_11 : decode cX6_efficiencyBits 11 = .ok (.aload_n 0, 1) := by decide +kernel
theorem dX6_efficiencyBits_12 : decode cX6_efficiencyBits 12 = .ok (.getfield 51, 3) := by decide +kernel
theorem dX6_efficiencyBits_15 : decode cX6_efficiencyBits 15 = .ok (.getfield 291, 3) := by decide +kernel
theorem dX6_efficiencyBits_18 : decode cX6_efficiencyBits 18 = .ok (.invokestatic 309, 3) := by decide +kernel
theorem dX6_efficiencyBits_21 : decode cX6_efficiencyBits 21 = .ok (.istore_n 1, 1) := by decide +kernel
theorem dX6_efficiencyBits_22 : decode cX6_efficiencyBits 22 = .ok (.iload_n 1, 1) := by decide +kernel
theorem dX6_efficiencyBits_23 : decode cX6_efficiencyBits 23 = .ok (.ifCond .ne 8, 3) := by decide +kernel
theorem dX6_efficiencyBits_26 : decode cX6_efficiencyBits 26 = .ok (.fconst 1, 1) := by decide +kernel
theorem dX6_efficiencyBits_27 : decode cX6_efficiencyBits 27 = .ok (.invokestatic 192, 3) := by decide +kernel
theorem dX6_efficiencyBits_30 : decode cX6_efficiencyBits 30 = .ok (.ireturn, 1) := by decide +kernel
theorem dX6_efficiencyBits_31 : decode cX6_efficiencyBits 31 = .ok (.aload_n 0, 1) := by decide +kernel
theorem dX6_efficiencyBits_32 : decode cX6_efficiencyBits 32 = .ok (.aload_n 0, 1) := by decide +kernel
theorem dX6_efficiencyBits_33 : decode cX6_efficiencyBits 33 = .ok (.getfield 12, 3) := by decide +kernel
theorem dX6_efficiencyBits_36 : decode cX6_efficiencyBits 36 = .ok (.invokevirtual 326, 3) := by decide +kernel
theorem dX6_efficiencyBits_39 : decode cX6_efficiencyBits 39 = .ok (.invokevirtual 329, 3) := by decide +kernel
theorem dX6_efficiencyBits_42 : decode cX6_efficiencyBits 42 = .ok (.i2f, 1) := by decide +kernel
theorem dX6_efficiencyBits_43 : decode cX6_efficiencyBits 43 = .ok (.iload_n 1, 1) := by decide +kernel
theorem dX6_efficiencyBits_44 : decode cX6_efficiencyBits 44 = .ok (.i2f, 1) := by decide +kernel
theorem dX6_efficiencyBits_45 : decode cX6_efficiencyBits 45 = .ok (.fdiv, 1) := by decide +kernel
theorem dX6_efficiencyBits_46 : decode cX6_efficiencyBits 46 = .ok (.invokestatic 192, 3) := by decide +kernel
theorem dX6_efficiencyBits_49 : decode cX6_efficiencyBits 49 = .ok (.ireturn, 1) := by decide +kernel
theorem dX6_meanPriceBits_0 : decode cX6_meanPriceBits 0 = .ok (.aload_n 0, 1) := by decide +kernel
theorem dX6_meanPriceBits_1 : decode cX6_meanPriceBits 1 = .ok (.invokevirtual 261, 3) := by decide +kernel
theorem dX6_meanPriceBits_4 : decode cX6_meanPriceBits 4 = .ok (.aload_n 0, 1) := by decide +kernel
theorem dX6_meanPriceBits_5 : decode cX6_meanPriceBits 5 = .ok (.getfield 51, 3) := by decide +kernel
theorem dX6_meanPriceBits_8 : decode cX6_meanPriceBits 8 = .ok (.getfield 291, 3) := by decide +kernel
theorem dX6_meanPriceBits_11 : decode cX6_meanPriceBits 11 = .ok (.invokestatic 223, 3) := by decide +kernel
theorem dX6_meanPriceBits_14 : decode cX6_meanPriceBits 14 = .ok (.istore_n 1, 1) := by decide +kernel
theorem dX6_meanPriceBits_15 : decode cX6_meanPriceBits 15 = .ok (.iload_n 1, 1) := by decide +kernel
theorem dX6_meanPriceBits_16 : decode cX6_meanPriceBits 16 = .ok (.ifCond .ne 14, 3) := by decide +kernel
theorem dX6_meanPriceBits_19 : decode cX6_meanPriceBits 19 = .ok (.new 332, 3) := by decide +kernel
theorem dX6_meanPriceBits_22 : decode cX6_meanPriceBits 22 = .ok (.dup, 1) := by decide +kernel
theorem dX6_meanPriceBits_23 : decode cX6_meanPriceBits 23 = .ok (.ldc_w 334, 3) := by decide +kernel
theorem dX6_meanPriceBits_26 : decode cX6_meanPriceBits 26 = .ok (.invokespecial 336, 3) := by decide +kernel
theorem dX6_meanPriceBits_29 : decode cX6_meanPriceBits 29 = .ok (.athrow, 1) := by decide +kernel
theorem dX6_meanPriceBits_30 : decode cX6_meanPriceBits 30 = .ok (.aload_n 0, 1) := by decide +kernel
theorem dX6_meanPriceBits_31 : decode cX6_meanPriceBits 31 = .ok (.getfield 51, 3) := by decide +kernel
theorem dX6_meanPriceBits_34 : decode cX6_meanPriceBits 34 = .ok (.getfield 296, 3) := by decide +kernel
theorem dX6_meanPriceBits_37 : decode cX6_meanPriceBits 37 = .ok (.aload_n 0, 1) := by decide +kernel
theorem dX6_meanPriceBits_38 : decode cX6_meanPriceBits 38 = .ok (.getfield 51, 3) := by decide +kernel
theorem dX6_meanPriceBits_41 : decode cX6_meanPriceBits 41 = .ok (.getfield 291, 3) := by decide +kernel
theorem dX6_meanPriceBits_44 : decode cX6_meanPriceBits 44 = .ok (.invokestatic 309, 3) := by decide +kernel
theorem dX6_meanPriceBits_47 : decode cX6_meanPriceBits 47 = .ok (.i2d, 1) := by decide +kernel
theorem dX6_meanPriceBits_48 : decode cX6_meanPriceBits 48 = .ok (.iload_n 1, 1) := by decide +kernel
theorem dX6_meanPriceBits_49 : decode cX6_meanPriceBits 49 = .ok (.i2d, 1) := by decide +kernel
theorem dX6_meanPriceBits_50 : decode cX6_meanPriceBits 50 = .ok (.ddiv, 1) := by decide +kernel
theorem dX6_meanPriceBits_51 : decode cX6_meanPriceBits 51 = .ok (.invokestatic 337, 3) := by decide +kernel
theorem dX6_meanPriceBits_54 : decode cX6_meanPriceBits 54 = .ok (.lreturn, 1) := by decide +kernel
theorem dX6_count_0 : decode cX6_count 0 = .ok (.iload_n 1, 1) := by decide +kernel
theorem dX6_count_1 : decode cX6_count 1 = .ok (.tableswitch 139 0 7 #[47, 55, 66, 77, 88, 99, 107, 115], 47) := by decide +kernel
theorem dX6_count_48 : decode cX6_count 48 = .ok (.aload_n 0, 1) := by decide +kernel
theorem dX6_count_49 : decode cX6_count 49 = .ok (.getfield 27, 3) := by decide +kernel
theorem dX6_count_52 : decode cX6_count 52 = .ok (.getfield 93, 3) := by decide +kernel
theorem dX6_count_55 : decode cX6_count 55 = .ok (.ireturn, 1) := by decide +kernel
theorem dX6_count_56 : decode cX6_count 56 = .ok (.aload_n 0, 1) := by decide +kernel
theorem dX6_count_57 : decode cX6_count 57 = .ok (.getfield 27, 3) := by decide +kernel
theorem dX6_count_60 : decode cX6_count 60 = .ok (.getfield 155, 3) := by decide +kernel
theorem dX6_count_63 : decode cX6_count 63 = .ok (.invokestatic 341, 3) := by decide +kernel
theorem dX6_count_66 : decode cX6_count 66 = .ok (.ireturn, 1) := by decide +kernel
theorem dX6_count_67 : decode cX6_count 67 = .ok (.aload_n 0, 1) := by decide +kernel
theorem dX6_count_68 : decode cX6_count 68 = .ok (.getfield 27, 3) := by decide +kernel
theorem dX6_count_71 : decode cX6_count 71 = .ok (.getfield 158, 3) := by decide +kernel
theorem dX6_count_74 : decode cX6_count 74 = .ok (.invokestatic 341, 3) := by decide +kernel
theorem dX6_count_77 : decode cX6_count 77 = .ok (.ireturn, 1) := by decide +kernel
theorem dX6_count_78 : decode cX6_count 78 = .ok (.aload_n 0, 1) := by decide +kernel
theorem dX6_count_79 : decode cX6_count 79 = .ok (.getfield 27, 3) := by decide +kernel
theorem dX6_count_82 : decode cX6_count 82 = .ok (.getfield 126, 3) := by decide +kernel
theorem dX6_count_85 : decode cX6_count 85 = .ok (.invokestatic 223, 3) := by decide +kernel
theorem dX6_count_88 : decode cX6_count 88 = .ok (.ireturn, 1) := by decide +kernel
theorem dX6_count_89 : decode cX6_count 89 = .ok (.aload_n 0, 1) := by decide +kernel
theorem dX6_count_90 : decode cX6_count 90 = .ok (.getfield 27, 3) := by decide +kernel
theorem dX6_count_93 : decode cX6_count 93 = .ok (.getfield 116, 3) := by decide +kernel
theorem dX6_count_96 : decode cX6_count 96 = .ok (.invokestatic 223, 3) := by decide +kernel
theorem dX6_count_99 : decode cX6_count 99 = .ok (.ireturn, 1) := by decide +kernel
theorem dX6_count_100 : decode cX6_count 100 = .ok (.aload_n 0, 1) := by decide +kernel
theorem dX6_count_101 : decode cX6_count 101 = .ok (.getfield 27, 3) := by decide +kernel
theorem dX6_count_104 : decode cX6_count 104 = .ok (.invokevirtual 345, 3) := by decide +kernel
theorem dX6_count_107 : decode cX6_count 107 = .ok (.ireturn, 1) := by decide +kernel
theorem dX6_count_108 : decode cX6_count 108 = .ok (.aload_n 0, 1) := by decide +kernel
theorem dX6_count_109 : decode cX6_count 109 = .ok (.getfield 39, 3) := by decide +kernel
theorem dX6_count_112 : decode cX6_count 112 = .ok (.getfield 131, 3) := by decide +kernel
theorem dX6_count_115 : decode cX6_count 115 = .ok (.ireturn, 1) := by decide +kernel
theorem dX6_count_116 : decode cX6_count 116 = .ok (.aload_n 0, 1) := by decide +kernel
theorem dX6_count_117 : decode cX6_count 117 = .ok (.getfield 51, 3) := by decide +kernel
theorem dX6_count_120 : decode cX6_count 120 = .ok (.getfield 288, 3) := by decide +kernel
theorem dX6_count_123 : decode cX6_count 123 = .ok (.ifCond .eq 15, 3) := by decide +kernel
theorem dX6_count_126 : decode cX6_count 126 = .ok (.aload_n 0, 1) := by decide +kernel
theorem dX6_count_127 : decode cX6_count 127 = .ok (.getfield 51, 3) := by decide +kernel
theorem dX6_count_130 : decode cX6_count 130 = .ok (.getfield 273, 3) := by decide +kernel
theorem dX6_count_133 : decode cX6_count 133 = .ok (.iconst 1, 1) := by decide +kernel
theorem dX6_count_134 : decode cX6_count 134 = .ok (.iadd, 1) := by decide +kernel
theorem dX6_count_135 : decode cX6_count 135 = .ok (.goto 4, 3) := by decide +kernel
theorem dX6_count_138 : decode cX6_count 138 = .ok (.iconst 0, 1) := by decide +kernel
theorem dX6_count_139 : decode cX6_count 139 = .ok (.ireturn, 1) := by decide +kernel
theorem dX6_count_140 : decode cX6_count 140 = .ok (.new 83, 3) := by decide +kernel
theorem dX6_count_143 : decode cX6_count 143 = .ok (.dup, 1) := by decide +kernel
theorem dX6_count_144 : decode cX6_count 144 = .ok (.ldc_w 348, 3) := by decide +kernel
theorem dX6_count_147 : decode cX6_count 147 = .ok (.invokespecial 87, 3) := by decide +kernel
theorem dX6_count_150 : decode cX6_count 150 = .ok (.athrow, 1) := by decide +kernel
theorem dX6_save_0 : decode cX6_save 0 = .ok (.aload_n 0, 1) := by decide +kernel
theorem dX6_save_1 : decode cX6_save 1 = .ok (.getfield 58, 3) := by decide +kernel
theorem dX6_save_4 : decode cX6_save 4 = .ok (.aload_n 0, 1) := by decide +kernel
theorem dX6_save_5 : decode cX6_save 5 = .ok (.getfield 27, 3) := by decide +kernel
theorem dX6_save_8 : decode cX6_save 8 = .ok (.invokevirtual 350, 3) := by decide +kernel
theorem dX6_save_11 : decode cX6_save 11 = .ok (.aload_n 0, 1) := by decide +kernel
theorem dX6_save_12 : decode cX6_save 12 = .ok (.getfield 61, 3) := by decide +kernel
theorem dX6_save_15 : decode cX6_save 15 = .ok (.aload_n 0, 1) := by decide +kernel
theorem dX6_save_16 : decode cX6_save 16 = .ok (.getfield 51, 3) := by decide +kernel
theorem dX6_save_19 : decode cX6_save 19 = .ok (.invokevirtual 353, 3) := by decide +kernel
theorem dX6_save_22 : decode cX6_save 22 = .ok (.aload_n 0, 1) := by decide +kernel
theorem dX6_save_23 : decode cX6_save 23 = .ok (.iconst 1, 1) := by decide +kernel
theorem dX6_save_24 : decode cX6_save 24 = .ok (.putfield 68, 3) := by decide +kernel
theorem dX6_save_27 : decode cX6_save 27 = .ok (.aload_n 0, 1) := by decide +kernel
theorem dX6_save_28 : decode cX6_save 28 = .ok (.getfield 27, 3) := by decide +kernel
theorem dX6_save_31 : decode cX6_save 31 = .ok (.getfield 93, 3) := by decide +kernel
theorem dX6_save_34 : decode cX6_save 34 = .ok (.ireturn, 1) := by decide +kernel
theorem dX6_restore_0 : decode cX6_restore 0 = .ok (.aload_n 0, 1) := by decide +kernel
theorem dX6_restore_1 : decode cX6_restore 1 = .ok (.getfield 68, 3) := by decide +kernel
theorem dX6_restore_4 : decode cX6_restore 4 = .ok (.ifCond .ne 14, 3) := by decide +kernel
theorem dX6_restore_7 : decode cX6_restore 7 = .ok (.new 96, 3) := by decide +kernel
theorem dX6_restore_10 : decode cX6_restore 10 = .ok (.dup, 1) := by decide +kernel
theorem dX6_restore_11 : decode cX6_restore 11 = .ok (.ldc_w 356, 3) := by decide +kernel
theorem dX6_restore_14 : decode cX6_restore 14 = .ok (.invokespecial 100, 3) := by decide +kernel
theorem dX6_restore_17 : decode cX6_restore 17 = .ok (.athrow, 1) := by decide +kernel
theorem dX6_restore_18 : decode cX6_restore 18 = .ok (.aload_n 0, 1) := by decide +kernel
theorem dX6_restore_19 : decode cX6_restore 19 = .ok (.getfield 27, 3) := by decide +kernel
theorem dX6_restore_22 : decode cX6_restore 22 = .ok (.aload_n 0, 1) := by decide +kernel
theorem dX6_restore_23 : decode cX6_restore 23 = .ok (.getfield 58, 3) := by decide +kernel
theorem dX6_restore_26 : decode cX6_restore 26 = .ok (.invokevirtual 350, 3) := by decide +kernel
theorem dX6_restore_29 : decode cX6_restore 29 = .ok (.aload_n 0, 1) := by decide +kernel
theorem dX6_restore_30 : decode cX6_restore 30 = .ok (.getfield 51, 3) := by decide +kernel
theorem dX6_restore_33 : decode cX6_restore 33 = .ok (.aload_n 0, 1) := by decide +kernel
theorem dX6_restore_34 : decode cX6_restore 34 = .ok (.getfield 61, 3) := by decide +kernel
theorem dX6_restore_37 : decode cX6_restore 37 = .ok (.invokevirtual 353, 3) := by decide +kernel
theorem dX6_restore_40 : decode cX6_restore 40 = .ok (.aload_n 0, 1) := by decide +kernel
theorem dX6_restore_41 : decode cX6_restore 41 = .ok (.getfield 20, 3) := by decide +kernel
theorem dX6_restore_44 : decode cX6_restore 44 = .ok (.invokevirtual 105, 3) := by decide +kernel
theorem dX6_restore_47 : decode cX6_restore 47 = .ok (.aload_n 0, 1) := by decide +kernel
theorem dX6_restore_48 : decode cX6_restore 48 = .ok (.getfield 27, 3) := by decide +kernel
theorem dX6_restore_51 : decode cX6_restore 51 = .ok (.getfield 93, 3) := by decide +kernel
theorem dX6_restore_54 : decode cX6_restore 54 = .ok (.ireturn, 1) := by decide +kernel
theorem dX6_requireStation_0 : decode cX6_requireStation 0 = .ok (.iload_n 1, 1) := by decide +kernel
theorem dX6_requireStation_1 : decode cX6_requireStation 1 = .ok (.ifCond .lt 14, 3) := by decide +kernel
theorem dX6_requireStation_4 : decode cX6_requireStation 4 = .ok (.iload_n 1, 1) := by decide +kernel
theorem dX6_requireStation_5 : decode cX6_requireStation 5 = .ok (.aload_n 0, 1) := by decide +kernel
theorem dX6_requireStation_6 : decode cX6_requireStation 6 = .ok (.getfield 27, 3) := by decide +kernel
theorem dX6_requireStation_9 : decode cX6_requireStation 9 = .ok (.getfield 93, 3) := by decide +kernel
theorem dX6_requireStation_12 : decode cX6_requireStation 12 = .ok (.if_icmp .lt 14, 3) := by decide +kernel
theorem dX6_requireStation_15 : decode cX6_requireStation 15 = .ok (.new 164, 3) := by decide +kernel
theorem dX6_requireStation_18 : decode cX6_requireStation 18 = .ok (.dup, 1) := by decide +kernel
theorem dX6_requireStation_19 : decode cX6_requireStation 19 = .ok (.ldc_w 358, 3) := by decide +kernel
theorem dX6_requireStation_22 : decode cX6_requireStation 22 = .ok (.invokespecial 168, 3) := by decide +kernel
theorem dX6_requireStation_25 : decode cX6_requireStation 25 = .ok (.athrow, 1) := by decide +kernel
theorem dX6_requireStation_26 : decode cX6_requireStation 26 = .ok (.return_, 1) := by decide +kernel
theorem dX6_requireSet_0 : decode cX6_requireSet 0 = .ok (.iload_n 1, 1) := by decide +kernel
theorem dX6_requireSet_1 : decode cX6_requireSet 1 = .ok (.aload_n 0, 1) := by decide +kernel
theorem dX6_requireSet_2 : decode cX6_requireSet 2 = .ok (.getfield 27, 3) := by decide +kernel
theorem dX6_requireSet_5 : decode cX6_requireSet 5 = .ok (.invokevirtual 360, 3) := by decide +kernel
theorem dX6_requireSet_8 : decode cX6_requireSet 8 = .ok (.iconst (-1), 1) := by decide +kernel
theorem dX6_requireSet_9 : decode cX6_requireSet 9 = .ok (.ixor, 1) := by decide +kernel
theorem dX6_requireSet_10 : decode cX6_requireSet 10 = .ok (.iand, 1) := by decide +kernel
theorem dX6_requireSet_11 : decode cX6_requireSet 11 = .ok (.ifCond .eq 14, 3) := by decide +kernel
theorem dX6_requireSet_14 : decode cX6_requireSet 14 = .ok (.new 83, 3) := by decide +kernel
theorem dX6_requireSet_17 : decode cX6_requireSet 17 = .ok (.dup, 1) := by decide +kernel
theorem dX6_requireSet_18 : decode cX6_requireSet 18 = .ok (.ldc_w 363, 3) := by decide +kernel
theorem dX6_requireSet_21 : decode cX6_requireSet 21 = .ok (.invokespecial 87, 3) := by decide +kernel
theorem dX6_requireSet_24 : decode cX6_requireSet 24 = .ok (.athrow, 1) := by decide +kernel
theorem dX6_requireSet_25 : decode cX6_requireSet 25 = .ok (.return_, 1) := by decide +kernel
theorem dX6_requireChannels_0 : decode cX6_requireChannels 0 = .ok (.iload_n 1, 1) := by decide +kernel
theorem dX6_requireChannels_1 : decode cX6_requireChannels 1 = .ok (.sipush (-256), 3) := by decide +kernel
theorem dX6_requireChannels_4 : decode cX6_requireChannels 4 = .ok (.iand, 1) := by decide +kernel
theorem dX6_requireChannels_5 : decode cX6_requireChannels 5 = .ok (.ifCond .eq 14, 3) := by decide +kernel
theorem dX6_requireChannels_8 : decode cX6_requireChannels 8 = .ok (.new 83, 3) := by decide +kernel
theorem dX6_requireChannels_11 : decode cX6_requireChannels 11 = .ok (.dup, 1) := by decide +kernel
theorem dX6_requireChannels_12 : decode cX6_requireChannels 12 = .ok (.ldc_w 365, 3) := by decide +kernel
theorem dX6_requireChannels_15 : decode cX6_requireChannels 15 = .ok (.invokespecial 87, 3) := by decide +kernel
theorem dX6_requireChannels_18 : decode cX6_requireChannels 18 = .ok (.athrow, 1) := by decide +kernel
theorem dX6_requireChannels_19 : decode cX6_requireChannels 19 = .ok (.return_, 1) := by decide +kernel
theorem dX6_requireValue_0 : decode cX6_requireValue 0 = .ok (.iload_n 1, 1) := by decide +kernel
theorem dX6_requireValue_1 : decode cX6_requireValue 1 = .ok (.ifCond .lt 10, 3) := by decide +kernel
theorem dX6_requireValue_4 : decode cX6_requireValue 4 = .ok (.iload_n 1, 1) := by decide +kernel
theorem dX6_requireValue_5 : decode cX6_requireValue 5 = .ok (.sipush 9999, 3) := by decide +kernel
theorem dX6_requireValue_8 : decode cX6_requireValue 8 = .ok (.if_icmp .le 14, 3) := by decide +kernel
theorem dX6_requireValue_11 : decode cX6_requireValue 11 = .ok (.new 83, 3) := by decide +kernel
theorem dX6_requireValue_14 : decode cX6_requireValue 14 = .ok (.dup, 1) := by decide +kernel
theorem dX6_requireValue_15 : decode cX6_requireValue 15 = .ok (.ldc_w 367, 3) := by decide +kernel
theorem dX6_requireValue_18 : decode cX6_requireValue 18 = .ok (.invokespecial 87, 3) := by decide +kernel
theorem dX6_requireValue_21 : decode cX6_requireValue 21 = .ok (.athrow, 1) := by decide +kernel
theorem dX6_requireValue_22 : decode cX6_requireValue 22 = .ok (.return_, 1) := by decide +kernel
theorem dX6_requireDecrement_0 : decode cX6_requireDecrement 0 = .ok (.iload_n 1, 1) := by decide +kernel
theorem dX6_requireDecrement_1 : decode cX6_requireDecrement 1 = .ok (.bipush 10, 2) := by decide +kernel
theorem dX6_requireDecrement_3 : decode cX6_requireDecrement 3 = .ok (.if_icmp .lt 10, 3) := by decide +kernel
theorem dX6_requireDecrement_6 : decode cX6_requireDecrement 6 = .ok (.iload_n 1, 1) := by decide +kernel
theorem dX6_requireDecrement_7 : decode cX6_requireDecrement 7 = .ok (.sipush 1000, 3) := by decide +kernel
theorem dX6_requireDecrement_10 : decode cX6_requireDecrement 10 = .ok (.if_icmp .le 14, 3) := by decide +kernel
theorem dX6_requireDecrement_13 : decode cX6_requireDecrement 13 = .ok (.new 83, 3) := by decide +kernel
theorem dX6_requireDecrement_16 : decode cX6_requireDecrement 16 = .ok (.dup, 1) := by decide +kernel
theorem dX6_requireDecrement_17 : decode cX6_requireDecrement 17 = .ok (.ldc_w 369, 3) := by decide +kernel
theorem dX6_requireDecrement_20 : decode cX6_requireDecrement 20 = .ok (.invokespecial 87, 3) := by decide +kernel
theorem dX6_requireDecrement_23 : decode cX6_requireDecrement 23 = .ok (.athrow, 1) := by decide +kernel
theorem dX6_requireDecrement_24 : decode cX6_requireDecrement 24 = .ok (.return_, 1) := by decide +kernel
theorem dX6_requireFeasible_0 : decode cX6_requireFeasible 0 = .ok (.aload_n 0, 1) := by decide +kernel
theorem dX6_requireFeasible_1 : decode cX6_requireFeasible 1 = .ok (.getfield 20, 3) := by decide +kernel
theorem dX6_requireFeasible_4 : decode cX6_requireFeasible 4 = .ok (.iload_n 1, 1) := by decide +kernel
theorem dX6_requireFeasible_5 : decode cX6_requireFeasible 5 = .ok (.invokevirtual 205, 3) := by decide +kernel
theorem dX6_requireFeasible_8 : decode cX6_requireFeasible 8 = .ok (.ifCond .ne 14, 3) := by decide +kernel
theorem dX6_requireFeasible_11 : decode cX6_requireFeasible 11 = .ok (.new 96, 3) := by decide +kernel
theorem dX6_requireFeasible_14 : decode cX6_requireFeasible 14 = .ok (.dup, 1) := by decide +kernel
theorem dX6_requireFeasible_15 : decode cX6_requireFeasible 15 = .ok (.ldc_w 371, 3) := by decide +kernel
theorem dX6_requireFeasible_18 : decode cX6_requireFeasible 18 = .ok (.invokespecial 100, 3) := by decide +kernel
theorem dX6_requireFeasible_21 : decode cX6_requireFeasible 21 = .ok (.athrow, 1) := by decide +kernel
theorem dX6_requireFeasible_22 : decode cX6_requireFeasible 22 = .ok (.return_, 1) := by decide +kernel
theorem dX6_requireNoAuction_0 : decode cX6_requireNoAuction 0 = .ok (.aload_n 0, 1) := by decide +kernel
theorem dX6_requireNoAuction_1 : decode cX6_requireNoAuction 1 = .ok (.getfield 51, 3) := by decide +kernel
theorem dX6_requireNoAuction_4 : decode cX6_requireNoAuction 4 = .ok (.getfield 288, 3) := by decide +kernel
theorem dX6_requireNoAuction_7 : decode cX6_requireNoAuction 7 = .ok (.ifCond .eq 14, 3) := by decide +kernel
theorem dX6_requireNoAuction_10 : decode cX6_requireNoAuction 10 = .ok (.new 373, 3) := by decide +kernel
theorem dX6_requireNoAuction_13 : decode cX6_requireNoAuction 13 = .ok (.dup, 1) := by decide +kernel
theorem dX6_requireNoAuction_14 : decode cX6_requireNoAuction 14 = .ok (.ldc_w 375, 3) := by decide +kernel
theorem dX6_requireNoAuction_17 : decode cX6_requireNoAuction 17 = .ok (.invokespecial 377, 3) := by decide +kernel
theorem dX6_requireNoAuction_20 : decode cX6_requireNoAuction 20 = .ok (.athrow, 1) := by decide +kernel
theorem dX6_requireNoAuction_21 : decode cX6_requireNoAuction 21 = .ok (.return_, 1) := by decide +kernel
theorem dX6_requireAuction_0 : decode cX6_requireAuction 0 = .ok (.aload_n 0, 1) := by decide +kernel
theorem dX6_requireAuction_1 : decode cX6_requireAuction 1 = .ok (.getfield 51, 3) := by decide +kernel
theorem dX6_requireAuction_4 : decode cX6_requireAuction 4 = .ok (.getfield 288, 3) := by decide +kernel
theorem dX6_requireAuction_7 : decode cX6_requireAuction 7 = .ok (.ifCond .ne 14, 3) := by decide +kernel
theorem dX6_requireAuction_10 : decode cX6_requireAuction 10 = .ok (.new 96, 3) := by decide +kernel
theorem dX6_requireAuction_13 : decode cX6_requireAuction 13 = .ok (.dup, 1) := by decide +kernel
theorem dX6_requireAuction_14 : decode cX6_requireAuction 14 = .ok (.ldc_w 378, 3) := by decide +kernel
theorem dX6_requireAuction_17 : decode cX6_requireAuction 17 = .ok (.invokespecial 100, 3) := by decide +kernel
theorem dX6_requireAuction_20 : decode cX6_requireAuction 20 = .ok (.athrow, 1) := by decide +kernel
theorem dX6_requireAuction_21 : decode cX6_requireAuction 21 = .ok (.return_, 1) := by decide +kernel
theorem dX6_requireFinished_0 : decode cX6_requireFinished 0 = .ok (.aload_n 0, 1) := by decide +kernel
theorem dX6_requireFinished_1 : decode cX6_requireFinished 1 = .ok (.getfield 51, 3) := by decide +kernel
theorem dX6_requireFinished_4 : decode cX6_requireFinished 4 = .ok (.getfield 288, 3) := by decide +kernel
theorem dX6_requireFinished_7 : decode cX6_requireFinished 7 = .ok (.ifCond .eq 13, 3) := by decide +kernel
theorem dX6_requireFinished_10 : decode cX6_requireFinished 10 = .ok (.aload_n 0, 1) := by decide +kernel
theorem dX6_requireFinished_11 : decode cX6_requireFinished 11 = .ok (.getfield 51, 3) := by decide +kernel
theorem dX6_requireFinished_14 : decode cX6_requireFinished 14 = .ok (.invokevirtual 264, 3) := by decide +kernel
theorem dX6_requireFinished_17 : decode cX6_requireFinished 17 = .ok (.ifCond .ne 14, 3) := by decide +kernel
theorem dX6_requireFinished_20 : decode cX6_requireFinished 20 = .ok (.new 96, 3) := by decide +kernel
theorem dX6_requireFinished_23 : decode cX6_requireFinished 23 = .ok (.dup, 1) := by decide +kernel
theorem dX6_requireFinished_24 : decode cX6_requireFinished 24 = .ok (.ldc_w 380, 3) := by decide +kernel
theorem dX6_requireFinished_27 : decode cX6_requireFinished 27 = .ok (.invokespecial 100, 3) := by decide +kernel
theorem dX6_requireFinished_30 : decode cX6_requireFinished 30 = .ok (.athrow, 1) := by decide +kernel
theorem dX6_requireFinished_31 : decode cX6_requireFinished 31 = .ok (.return_, 1) := by decide +kernel
theorem dX6_playRound_0 : decode cX6_playRound 0 = .ok (.aload_n 0, 1) := by decide +kernel
theorem dX6_playRound_1 : decode cX6_playRound 1 = .ok (.getfield 51, 3) := by decide +kernel
theorem dX6_playRound_4 : decode cX6_playRound 4 = .ok (.getfield 306, 3) := by decide +kernel
theorem dX6_playRound_7 : decode cX6_playRound 7 = .ok (.aload_n 0, 1) := by decide +kernel
theorem dX6_playRound_8 : decode cX6_playRound 8 = .ok (.getfield 51, 3) := by decide +kernel
theorem dX6_playRound_11 : decode cX6_playRound 11 = .ok (.getfield 273, 3) := by decide +kernel
theorem dX6_playRound_14 : decode cX6_playRound 14 = .ok (.iaload, 1) := by decide +kernel
theorem dX6_playRound_15 : decode cX6_playRound 15 = .ok (.istore_n 1, 1) := by decide +kernel
theorem dX6_playRound_16 : decode cX6_playRound 16 = .ok (.aload_n 0, 1) := by decide +kernel
theorem dX6_playRound_17 : decode cX6_playRound 17 = .ok (.invokevirtual 321, 3) := by decide +kernel
theorem dX6_playRound_20 : decode cX6_playRound 20 = .ok (.istore_n 2, 1) := by decide +kernel
theorem dX6_playRound_21 : decode cX6_playRound 21 = .ok (.iconst 0, 1) := by decide +kernel
theorem dX6_playRound_22 : decode cX6_playRound 22 = .ok (.istore_n 3, 1) := by decide +kernel
theorem dX6_playRound_23 : decode cX6_playRound 23 = .ok (.iload_n 3, 1) := by decide +kernel
theorem dX6_playRound_24 : decode cX6_playRound 24 = .ok (.iload_n 2, 1) := by decide +kernel
theorem dX6_playRound_25 : decode cX6_playRound 25 = .ok (.if_icmp .ge 39, 3) := by decide +kernel
theorem dX6_playRound_28 : decode cX6_playRound 28 = .ok (.aload_n 0, 1) := by decide +kernel
theorem dX6_playRound_29 : decode cX6_playRound 29 = .ok (.getfield 51, 3) := by decide +kernel
theorem dX6_playRound_32 : decode cX6_playRound 32 = .ok (.getfield 255, 3) := by decide +kernel
theorem dX6_playRound_35 : decode cX6_playRound 35 = .ok (.aload_n 0, 1) := by decide +kernel
theorem dX6_playRound_36 : decode cX6_playRound 36 = .ok (.getfield 64, 3) := by decide +kernel
theorem dX6_playRound_39 : decode cX6_playRound 39 = .ok (.iload_n 3, 1) := by decide +kernel
theorem dX6_playRound_40 : decode cX6_playRound 40 = .ok (.iaload, 1) := by decide +kernel
theorem dX6_playRound_41 : decode cX6_playRound 41 = .ok (.invokestatic 119, 3) := by decide +kernel
theorem dX6_playRound_44 : decode cX6_playRound 44 = .ok (.ifCond .eq 14, 3) := by decide +kernel
theorem dX6_playRound_47 : decode cX6_playRound 47 = .ok (.aload_n 0, 1) := by decide +kernel
theorem dX6_playRound_48 : decode cX6_playRound 48 = .ok (.aload_n 0, 1) := by decide +kernel
theorem dX6_playRound_49 : decode cX6_playRound 49 = .ok (.getfield 64, 3) := by decide +kernel
theorem dX6_playRound_52 : decode cX6_playRound 52 = .ok (.iload_n 3, 1) := by decide +kernel
theorem dX6_playRound_53 : decode cX6_playRound 53 = .ok (.iaload, 1) := by decide +kernel
theorem dX6_playRound_54 : decode cX6_playRound 54 = .ok (.iload_n 1, 1) := by decide +kernel
theorem dX6_playRound_55 : decode cX6_playRound 55 = .ok (.invokevirtual 382, 3) := by decide +kernel
theorem dX6_playRound_58 : decode cX6_playRound 58 = .ok (.iinc 3 1, 3) := by decide +kernel
theorem dX6_playRound_61 : decode cX6_playRound 61 = .ok (.goto (-38), 3) := by decide +kernel
theorem dX6_playRound_64 : decode cX6_playRound 64 = .ok (.iload_n 1, 1) := by decide +kernel
theorem dX6_playRound_65 : decode cX6_playRound 65 = .ok (.ifCond .ne 10, 3) := by decide +kernel
theorem dX6_playRound_68 : decode cX6_playRound 68 = .ok (.aload_n 0, 1) := by decide +kernel
theorem dX6_playRound_69 : decode cX6_playRound 69 = .ok (.getfield 51, 3) := by decide +kernel
theorem dX6_playRound_72 : decode cX6_playRound 72 = .ok (.invokevirtual 386, 3) := by decide +kernel
theorem dX6_playRound_75 : decode cX6_playRound 75 = .ok (.return_, 1) := by decide +kernel
theorem dX6_consider_0 : decode cX6_consider 0 = .ok (.aload_n 0, 1) := by decide +kernel
theorem dX6_consider_1 : decode cX6_consider 1 = .ok (.getfield 20, 3) := by decide +kernel
theorem dX6_consider_4 : decode cX6_consider 4 = .ok (.aload_n 0, 1) := by decide +kernel
theorem dX6_consider_5 : decode cX6_consider 5 = .ok (.getfield 51, 3) := by decide +kernel
theorem dX6_consider_8 : decode cX6_consider 8 = .ok (.getfield 285, 3) := by decide +kernel
theorem dX6_consider_11 : decode cX6_consider 11 = .ok (.iconst 1, 1) := by decide +kernel
theorem dX6_consider_12 : decode cX6_consider 12 = .ok (.iload_n 1, 1) := by decide +kernel
theorem dX6_consider_13 : decode cX6_consider 13 = .ok (.ishl, 1) := by decide +kernel
theorem dX6_consider_14 : decode cX6_consider 14 = .ok (.ior, 1) := by decide +kernel
theorem dX6_consider_15 : decode cX6_consider 15 = .ok (.invokevirtual 205, 3) := by decide +kernel
theorem dX6_consider_18 : decode cX6_consider 18 = .ok (.ifCond .ne 20, 3) := by decide +kernel
theorem dX6_consider_21 : decode cX6_consider 21 = .ok (.aload_n 0, 1) := by decide +kernel
theorem dX6_consider_22 : decode cX6_consider 22 = .ok (.getfield 51, 3) := by decide +kernel
theorem dX6_consider_25 : decode cX6_consider 25 = .ok (.iload_n 1, 1) := by decide +kernel
theorem dX6_consider_26 : decode cX6_consider 26 = .ok (.aload_n 0, 1) := by decide +kernel
theorem dX6_consider_27 : decode cX6_consider 27 = .ok (.getfield 51, 3) := by decide +kernel
theorem dX6_consider_30 : decode cX6_consider 30 = .ok (.getfield 285, 3) := by decide +kernel
theorem dX6_consider_33 : decode cX6_consider 33 = .ok (.iconst 1, 1) := by decide +kernel
theorem dX6_consider_34 : decode cX6_consider 34 = .ok (.invokevirtual 389, 3) := by decide +kernel
theorem dX6_consider_37 : decode cX6_consider 37 = .ok (.return_, 1) := by decide +kernel
theorem dX6_consider_38 : decode cX6_consider 38 = .ok (.aload_n 0, 1) := by decide +kernel
theorem dX6_consider_39 : decode cX6_consider 39 = .ok (.getfield 27, 3) := by decide +kernel
theorem dX6_consider_42 : decode cX6_consider 42 = .ok (.iload_n 1, 1) := by decide +kernel
theorem dX6_consider_43 : decode cX6_consider 43 = .ok (.iload_n 2, 1) := by decide +kernel
theorem dX6_consider_44 : decode cX6_consider 44 = .ok (.invokevirtual 198, 3) := by decide +kernel
theorem dX6_consider_47 : decode cX6_consider 47 = .ok (.istore_n 3, 1) := by decide +kernel
theorem dX6_consider_48 : decode cX6_consider 48 = .ok (.iload_n 3, 1) := by decide +kernel
theorem dX6_consider_49 : decode cX6_consider 49 = .ok (.aload_n 0, 1) := by decide +kernel
theorem dX6_consider_50 : decode cX6_consider 50 = .ok (.getfield 27, 3) := by decide +kernel
theorem dX6_consider_53 : decode cX6_consider 53 = .ok (.getfield 123, 3) := by decide +kernel
theorem dX6_consider_56 : decode cX6_consider 56 = .ok (.iload_n 1, 1) := by decide +kernel
theorem dX6_consider_57 : decode cX6_consider 57 = .ok (.iaload, 1) := by decide +kernel
theorem dX6_consider_58 : decode cX6_consider 58 = .ok (.if_icmp .ge 14, 3) := by decide +kernel
theorem dX6_consider_61 : decode cX6_consider 61 = .ok (.aload_n 0, 1) := by decide +kernel
theorem dX6_consider_62 : decode cX6_consider 62 = .ok (.getfield 51, 3) := by decide +kernel
theorem dX6_consider_65 : decode cX6_consider 65 = .ok (.iload_n 1, 1) := by decide +kernel
theorem dX6_consider_66 : decode cX6_consider 66 = .ok (.invokevirtual 392, 3) := by decide +kernel
theorem dX6_consider_69 : decode cX6_consider 69 = .ok (.goto 13, 3) := by decide +kernel
theorem dX6_consider_72 : decode cX6_consider 72 = .ok (.aload_n 0, 1) := by decide +kernel
theorem dX6_consider_73 : decode cX6_consider 73 = .ok (.getfield 51, 3) := by decide +kernel
theorem dX6_consider_76 : decode cX6_consider 76 = .ok (.getfield 296, 3) := by decide +kernel
theorem dX6_consider_79 : decode cX6_consider 79 = .ok (.iload_n 1, 1) := by decide +kernel
theorem dX6_consider_80 : decode cX6_consider 80 = .ok (.iload_n 3, 1) := by decide +kernel
theorem dX6_consider_81 : decode cX6_consider 81 = .ok (.iastore, 1) := by decide +kernel
theorem dX6_consider_82 : decode cX6_consider 82 = .ok (.return_, 1) := by decide +kernel
theorem dX6_rankStations_0 : decode cX6_rankStations 0 = .ok (.iconst 0, 1) := by decide +kernel
theorem dX6_rankStations_1 : decode cX6_rankStations 1 = .ok (.istore_n 1, 1) := by decide +kernel
theorem dX6_rankStations_2 : decode cX6_rankStations 2 = .ok (.iconst 0, 1) := by decide +kernel
theorem dX6_rankStations_3 : decode cX6_rankStations 3 = .ok (.istore_n 2, 1) := by decide +kernel
theorem dX6_rankStations_4 : decode cX6_rankStations 4 = .ok (.iload_n 2, 1) := by decide +kernel
theorem dX6_rankStations_5 : decode cX6_rankStations 5 = .ok (.aload_n 0, 1) := by decide +kernel
theorem dX6_rankStations_6 : decode cX6_rankStations 6 = .ok (.getfield 27, 3) := by decide +kernel
theorem dX6_rankStations_9 : decode cX6_rankStations 9 = .ok (.getfield 93, 3) := by decide +kernel
theorem dX6_rankStations_12 : decode cX6_rankStations 12 = .ok (.if_icmp .ge 94, 3) := by decide +kernel
theorem dX6_rankStations_15 : decode cX6_rankStations 15 = .ok (.aload_n 0, 1) := by decide +kernel
theorem dX6_rankStations_16 : decode cX6_rankStations 16 = .ok (.getfield 27, 3) := by decide +kernel
theorem dX6_rankStations_19 : decode cX6_rankStations 19 = .ok (.getfield 116, 3) := by decide +kernel
theorem dX6_rankStations_22 : decode cX6_rankStations 22 = .ok (.iload_n 2, 1) := by decide +kernel
theorem dX6_rankStations_23 : decode cX6_rankStations 23 = .ok (.invokestatic 119, 3) := by decide +kernel
theorem dX6_rankStations_26 : decode cX6_rankStations 26 = .ok (.ifCond .eq 74, 3) := by decide +kernel
theorem dX6_rankStations_29 : decode cX6_rankStations 29 = .ok (.aload_n 0, 1) := by decide +kernel
theorem dX6_rankStations_30 : decode cX6_rankStations 30 = .ok (.getfield 27, 3) := by decide +kernel
theorem dX6_rankStations_33 : decode cX6_rankStations 33 = .ok (.iload_n 2, 1) := by decide +kernel
theorem dX6_rankStations_34 : decode cX6_rankStations 34 = .ok (.invokevirtual 188, 3) := by decide +kernel
theorem dX6_rankStations_37 : decode cX6_rankStations 37 = .ok (.fstore_n 3, 1) := by decide +kernel
theorem dX6_rankStations_38 : decode cX6_rankStations 38 = .ok (.iload_n 1, 1) := by decide +kernel
theorem dX6_rankStations_39 : decode cX6_rankStations 39 = .ok (.istore 4, 2) := by decide +kernel
theorem dX6_rankStations_41 : decode cX6_rankStations 41 = .ok (.iload 4, 2) := by decide +kernel
theorem dX6_rankStations_43 : decode cX6_rankStations 43 = .ok (.ifCond .le 46, 3) := by decide +kernel
theorem dX6_rankStations_46 : decode cX6_rankStations 46 = .ok (.aload_n 0, 1) := by decide +kernel
theorem dX6_rankStations_47 : decode cX6_rankStations 47 = .ok (.getfield 27, 3) := by decide +kernel
theorem dX6_rankStations_50 : decode cX6_rankStations 50 = .ok (.aload_n 0, 1) := by decide +kernel
theorem dX6_rankStations_51 : decode cX6_rankStations 51 = .ok (.getfield 64, 3) := by decide +kernel
theorem dX6_rankStations_54 : decode cX6_rankStations 54 = .ok (.iload 4, 2) := by decide +kernel
theorem dX6_rankStations_56 : decode cX6_rankStations 56 = .ok (.iconst 1, 1) := by decide +kernel
theorem dX6_rankStations_57 : decode cX6_rankStations 57 = .ok (.isub, 1) := by decide +kernel
theorem dX6_rankStations_58 : decode cX6_rankStations 58 = .ok (.iaload, 1) := by decide +kernel
theorem dX6_rankStations_59 : decode cX6_rankStations 59 = .ok (.invokevirtual 188, 3) := by decide +kernel
theorem dX6_rankStations_62 : decode cX6_rankStations 62 = .ok (.fload_n 3, 1) := by decide +kernel
theorem dX6_rankStations_63 : decode cX6_rankStations 63 = .ok (.fcmp .g, 1) := by decide +kernel
theorem dX6_rankStations_64 : decode cX6_rankStations 64 = .ok (.ifCond .ge 25, 3) := by decide +kernel
theorem dX6_rankStations_67 : decode cX6_rankStations 67 = .ok (.aload_n 0, 1) := by decide +kernel
theorem dX6_rankStations_68 : decode cX6_rankStations 68 = .ok (.getfield 64, 3) := by decide +kernel
theorem dX6_rankStations_71 : decode cX6_rankStations 71 = .ok (.iload 4, 2) := by decide +kernel
theorem dX6_rankStations_73 : decode cX6_rankStations 73 = .ok (.aload_n 0, 1) := by decide +kernel
theorem dX6_rankStations_74 : decode cX6_rankStations 74 = .ok (.getfield 64, 3) := by decide +kernel
theorem dX6_rankStations_77 : decode cX6_rankStations 77 = .ok (.iload 4, 2) := by decide +kernel
theorem dX6_rankStations_79 : decode cX6_rankStations 79 = .ok (.iconst 1, 1) := by decide +kernel
theorem dX6_rankStations_80 : decode cX6_rankStations 80 = .ok (.isub, 1) := by decide +kernel
theorem dX6_rankStations_81 : decode cX6_rankStations 81 = .ok (.iaload, 1) := by decide +kernel
theorem dX6_rankStations_82 : decode cX6_rankStations 82 = .ok (.iastore, 1) := by decide +kernel
theorem dX6_rankStations_83 : decode cX6_rankStations 83 = .ok (.iinc 4 (-1), 3) := by decide +kernel
theorem dX6_rankStations_86 : decode cX6_rankStations 86 = .ok (.goto (-45), 3) := by decide +kernel
theorem dX6_rankStations_89 : decode cX6_rankStations 89 = .ok (.aload_n 0, 1) := by decide +kernel
theorem dX6_rankStations_90 : decode cX6_rankStations 90 = .ok (.getfield 64, 3) := by decide +kernel
theorem dX6_rankStations_93 : decode cX6_rankStations 93 = .ok (.iload 4, 2) := by decide +kernel
theorem dX6_rankStations_95 : decode cX6_rankStations 95 = .ok (.iload_n 2, 1) := by decide +kernel
theorem dX6_rankStations_96 : decode cX6_rankStations 96 = .ok (.iastore, 1) := by decide +kernel
theorem dX6_rankStations_97 : decode cX6_rankStations 97 = .ok (.iinc 1 1, 3) := by decide +kernel
theorem dX6_rankStations_100 : decode cX6_rankStations 100 = .ok (.iinc 2 1, 3) := by decide +kernel
theorem dX6_rankStations_103 : decode cX6_rankStations 103 = .ok (.goto (-99), 3) := by decide +kernel
theorem dX6_rankStations_106 : decode cX6_rankStations 106 = .ok (.iload_n 1, 1) := by decide +kernel
theorem dX6_rankStations_107 : decode cX6_rankStations 107 = .ok (.ireturn, 1) := by decide +kernel
theorem dX6_lossWithout_0 : decode cX6_lossWithout 0 = .ok (.aload_n 0, 1) := by decide +kernel
theorem dX6_lossWithout_1 : decode cX6_lossWithout 1 = .ok (.getfield 27, 3) := by decide +kernel
theorem dX6_lossWithout_4 : decode cX6_lossWithout 4 = .ok (.getfield 123, 3) := by decide +kernel
theorem dX6_lossWithout_7 : decode cX6_lossWithout 7 = .ok (.aload_n 0, 1) := by decide +kernel
theorem dX6_lossWithout_8 : decode cX6_lossWithout 8 = .ok (.getfield 27, 3) := by decide +kernel
theorem dX6_lossWithout_11 : decode cX6_lossWithout 11 = .ok (.invokevirtual 360, 3) := by decide +kernel
theorem dX6_lossWithout_14 : decode cX6_lossWithout 14 = .ok (.iload_n 1, 1) := by decide +kernel
theorem dX6_lossWithout_15 : decode cX6_lossWithout 15 = .ok (.iconst (-1), 1) := by decide +kernel
theorem dX6_lossWithout_16 : decode cX6_lossWithout 16 = .ok (.ixor, 1) := by decide +kernel
theorem dX6_lossWithout_17 : decode cX6_lossWithout 17 = .ok (.iand, 1) := by decide +kernel
theorem dX6_lossWithout_18 : decode cX6_lossWithout 18 = .ok (.invokestatic 309, 3) := by decide +kernel
theorem dX6_lossWithout_21 : decode cX6_lossWithout 21 = .ok (.ireturn, 1) := by decide +kernel
theorem dX6_describeConflicts_0 : decode cX6_describeConflicts 0 = .ok (.aload_n 0, 1) := by decide +kernel
theorem dX6_describeConflicts_1 : decode cX6_describeConflicts 1 = .ok (.getfield 45, 3) := by decide +kernel
theorem dX6_describeConflicts_4 : decode cX6_describeConflicts 4 = .ok (.iconst 0, 1) := by decide +kernel
theorem dX6_describeConflicts_5 : decode cX6_describeConflicts 5 = .ok (.putfield 131, 3) := by decide +kernel
theorem dX6_describeConflicts_8 : decode cX6_describeConflicts 8 = .ok (.iconst 0, 1) := by decide +kernel
theorem dX6_describeConflicts_9 : decode cX6_describeConflicts 9 = .ok (.istore_n 1, 1) := by decide +kernel
theorem dX6_describeConflicts_10 : decode cX6_describeConflicts 10 = .ok (.iload_n 1, 1) := by decide +kernel
theorem dX6_describeConflicts_11 : decode cX6_describeConflicts 11 = .ok (.aload_n 0, 1) := by decide +kernel
theorem dX6_describeConflicts_12 : decode cX6_describeConflicts 12 = .ok (.getfield 27, 3) := by decide +kernel
theorem dX6_describeConflicts_15 : decode cX6_describeConflicts 15 = .ok (.getfield 93, 3) := by decide +kernel
theorem dX6_describeConflicts_18 : decode cX6_describeConflicts 18 = .ok (.if_icmp .ge 36, 3) := by decide +kernel
theorem dX6_describeConflicts_21 : decode cX6_describeConflicts 21 = .ok (.iload_n 1, 1) := by decide +kernel
theorem dX6_describeConflicts_22 : decode cX6_describeConflicts 22 = .ok (.iconst 1, 1) := by decide +kernel
theorem dX6_describeConflicts_23 : decode cX6_describeConflicts 23 = .ok (.iadd, 1) := by decide +kernel
theorem dX6_describeConflicts_24 : decode cX6_describeConflicts 24 = .ok (.istore_n 2, 1) := by decide +kernel
theorem dX6_describeConflicts_25 : decode cX6_describeConflicts 25 = .ok (.iload_n 2, 1) := by decide +kernel
theorem dX6_describeConflicts_26 : decode cX6_describeConflicts 26 = .ok (.aload_n 0, 1) := by decide +kernel
theorem dX6_describeConflicts_27 : decode cX6_describeConflicts 27 = .ok (.getfield 27, 3) := by decide +kernel
theorem dX6_describeConflicts_30 : decode cX6_describeConflicts 30 = .ok (.getfield 93, 3) := by decide +kernel
theorem dX6_describeConflicts_33 : decode cX6_describeConflicts 33 = .ok (.if_icmp .ge 15, 3) := by decide +kernel
theorem dX6_describeConflicts_36 : decode cX6_describeConflicts 36 = .ok (.aload_n 0, 1) := by decide +kernel
theorem dX6_describeConflicts_37 : decode cX6_describeConflicts 37 = .ok (.iload_n 1, 1) := by decide +kernel
theorem dX6_describeConflicts_38 : decode cX6_describeConflicts 38 = .ok (.iload_n 2, 1) := by decide +kernel
theorem dX6_describeConflicts_39 : decode cX6_describeConflicts 39 = .ok (.invokevirtual 395, 3) := by decide +kernel
theorem dX6_describeConflicts_42 : decode cX6_describeConflicts 42 = .ok (.iinc 2 1, 3) := by decide +kernel
theorem dX6_describeConflicts_45 : decode cX6_describeConflicts 45 = .ok (.goto (-20), 3) := by decide +kernel
theorem dX6_describeConflicts_48 : decode cX6_describeConflicts 48 = .ok (.iinc 1 1, 3) := by decide +kernel
theorem dX6_describeConflicts_51 : decode cX6_describeConflicts 51 = .ok (.goto (-41), 3) := by decide +kernel
theorem dX6_describeConflicts_54 : decode cX6_describeConflicts 54 = .ok (.return_, 1) := by decide +kernel
theorem dX6_describePair_0 : decode cX6_describePair 0 = .ok (.aload_n 0, 1) := by decide +kernel
theorem dX6_describePair_1 : decode cX6_describePair 1 = .ok (.getfield 27, 3) := by decide +kernel
theorem dX6_describePair_4 : decode cX6_describePair 4 = .ok (.getfield 155, 3) := by decide +kernel
theorem dX6_describePair_7 : decode cX6_describePair 7 = .ok (.iload_n 1, 1) := by decide +kernel
theorem dX6_describePair_8 : decode cX6_describePair 8 = .ok (.iaload, 1) := by decide +kernel
theorem dX6_describePair_9 : decode cX6_describePair 9 = .ok (.iload_n 2, 1) := by decide +kernel
theorem dX6_describePair_10 : decode cX6_describePair 10 = .ok (.invokestatic 119, 3) := by decide +kernel
theorem dX6_describePair_13 : decode cX6_describePair 13 = .ok (.istore_n 3, 1) := by decide +kernel
theorem dX6_describePair_14 : decode cX6_describePair 14 = .ok (.aload_n 0, 1) := by decide +kernel
theorem dX6_describePair_15 : decode cX6_describePair 15 = .ok (.getfield 27, 3) := by decide +kernel
theorem dX6_describePair_18 : decode cX6_describePair 18 = .ok (.getfield 158, 3) := by decide +kernel
theorem dX6_describePair_21 : decode cX6_describePair 21 = .ok (.iload_n 1, 1) := by decide +kernel
theorem dX6_describePair_22 : decode cX6_describePair 22 = .ok (.iaload, 1) := by decide +kernel
theorem dX6_describePair_23 : decode cX6_describePair 23 = .ok (.iload_n 2, 1) := by decide +kernel
theorem dX6_describePair_24 : decode cX6_describePair 24 = .ok (.invokestatic 119, 3) := by decide +kernel
theorem dX6_describePair_27 : decode cX6_describePair 27 = .ok (.istore 4, 2) := by decide +kernel
theorem dX6_describePair_29 : decode cX6_describePair 29 = .ok (.iload_n 3, 1) := by decide +kernel
theorem dX6_describePair_30 : decode cX6_describePair 30 = .ok (.ifCond .ne 9, 3) := by decide +kernel
theorem dX6_describePair_33 : decode cX6_describePair 33 = .ok (.iload 4, 2) := by decide +kernel
theorem dX6_describePair_35 : decode cX6_describePair 35 = .ok (.ifCond .ne 4, 3) := by decide +kernel
theorem dX6_describePair_38 : decode cX6_describePair 38 = .ok (.return_, 1) := by decide +kernel
theorem dX6_describePair_39 : decode cX6_describePair 39 = .ok (.aload_n 0, 1) := by decide +kernel
theorem dX6_describePair_40 : decode cX6_describePair 40 = .ok (.getfield 45, 3) := by decide +kernel
theorem dX6_describePair_43 : decode cX6_describePair 43 = .ok (.getfield 131, 3) := by decide +kernel
theorem dX6_describePair_46 : decode cX6_describePair 46 = .ok (.ifCond .le 12, 3) := by decide +kernel
theorem dX6_describePair_49 : decode cX6_describePair 49 = .ok (.aload_n 0, 1) := by decide +kernel
theorem dX6_describePair_50 : decode cX6_describePair 50 = .ok (.getfield 45, 3) := by decide +kernel
theorem dX6_describePair_53 : decode cX6_describePair 53 = .ok (.bipush 59, 2) := by decide +kernel
theorem dX6_describePair_55 : decode cX6_describePair 55 = .ok (.invokevirtual 136, 3) := by decide +kernel
theorem dX6_describePair_58 : decode cX6_describePair 58 = .ok (.aload_n 0, 1) := by decide +kernel
theorem dX6_describePair_59 : decode cX6_describePair 59 = .ok (.getfield 45, 3) := by decide +kernel
theorem dX6_describePair_62 : decode cX6_describePair 62 = .ok (.iload_n 1, 1) := by decide +kernel
theorem dX6_describePair_63 : decode cX6_describePair 63 = .ok (.invokevirtual 398, 3) := by decide +kernel
theorem dX6_describePair_66 : decode cX6_describePair 66 = .ok (.aload_n 0, 1) := by decide +kernel
theorem dX6_describePair_67 : decode cX6_describePair 67 = .ok (.getfield 45, 3) := by decide +kernel
theorem dX6_describePair_70 : decode cX6_describePair 70 = .ok (.bipush 45, 2) := by decide +kernel
theorem dX6_describePair_72 : decode cX6_describePair 72 = .ok (.invokevirtual 136, 3) := by decide +kernel
theorem dX6_describePair_75 : decode cX6_describePair 75 = .ok (.aload_n 0, 1) := by decide +kernel
theorem dX6_describePair_76 : decode cX6_describePair 76 = .ok (.getfield 45, 3) := by decide +kernel
theorem dX6_describePair_79 : decode cX6_describePair 79 = .ok (.iload_n 2, 1) := by decide +kernel
theorem dX6_describePair_80 : decode cX6_describePair 80 = .ok (.invokevirtual 398, 3) := by decide +kernel
theorem dX6_describePair_83 : decode cX6_describePair 83 = .ok (.iload_n 3, 1) := by decide +kernel
theorem dX6_describePair_84 : decode cX6_describePair 84 = .ok (.ifCond .eq 12, 3) := by decide +kernel
theorem dX6_describePair_87 : decode cX6_describePair 87 = .ok (.aload_n 0, 1) := by decide +kernel
theorem dX6_describePair_88 : decode cX6_describePair 88 = .ok (.getfield 45, 3) := by decide +kernel
theorem dX6_describePair_91 : decode cX6_describePair 91 = .ok (.bipush 99, 2) := by decide +kernel
theorem dX6_describePair_93 : decode cX6_describePair 93 = .ok (.invokevirtual 136, 3) := by decide +kernel
theorem dX6_describePair_96 : decode cX6_describePair 96 = .ok (.iload 4, 2) := by decide +kernel
theorem dX6_describePair_98 : decode cX6_describePair 98 = .ok (.ifCond .eq 12, 3) := by decide +kernel
theorem dX6_describePair_101 : decode cX6_describePair 101 = .ok (.aload_n 0, 1) := by decide +kernel
theorem dX6_describePair_102 : decode cX6_describePair 102 = .ok (.getfield 45, 3) := by decide +kernel
theorem dX6_describePair_105 : decode cX6_describePair 105 = .ok (.bipush 97, 2) := by decide +kernel
theorem dX6_describePair_107 : decode cX6_describePair 107 = .ok (.invokevirtual 136, 3) := by decide +kernel
theorem dX6_describePair_110 : decode cX6_describePair 110 = .ok (.return_, 1) := by decide +kernel
theorem dX6_contains_0 : decode cX6_contains 0 = .ok (.iload_n 0, 1) := by decide +kernel
theorem dX6_contains_1 : decode cX6_contains 1 = .ok (.iload_n 1, 1) := by decide +kernel
theorem dX6_contains_2 : decode cX6_contains 2 = .ok (.ishr, 1) := by decide +kernel
theorem dX6_contains_3 : decode cX6_contains 3 = .ok (.iconst 1, 1) := by decide +kernel
theorem dX6_contains_4 : decode cX6_contains 4 = .ok (.iand, 1) := by decide +kernel
theorem dX6_contains_5 : decode cX6_contains 5 = .ok (.ifCond .eq 7, 3) := by decide +kernel
theorem dX6_contains_8 : decode cX6_contains 8 = .ok (.iconst 1, 1) := by decide +kernel
theorem dX6_contains_9 : decode cX6_contains 9 = .ok (.goto 4, 3) := by decide +kernel
theorem dX6_contains_12 : decode cX6_contains 12 = .ok (.iconst 0, 1) := by decide +kernel
theorem dX6_contains_13 : decode cX6_contains 13 = .ok (.ireturn, 1) := by decide +kernel
theorem dX6_sumOver_0 : decode cX6_sumOver 0 = .ok (.iconst 0, 1) := by decide +kernel
theorem dX6_sumOver_1 : decode cX6_sumOver 1 = .ok (.istore_n 2, 1) := by decide +kernel
theorem dX6_sumOver_2 : decode cX6_sumOver 2 = .ok (.iconst 0, 1) := by decide +kernel
theorem dX6_sumOver_3 : decode cX6_sumOver 3 = .ok (.istore_n 3, 1) := by decide +kernel
theorem dX6_sumOver_4 : decode cX6_sumOver 4 = .ok (.iload_n 3, 1) := by decide +kernel
theorem dX6_sumOver_5 : decode cX6_sumOver 5 = .ok (.aload_n 0, 1) := by decide +kernel
theorem dX6_sumOver_6 : decode cX6_sumOver 6 = .ok (.arraylength, 1) := by decide +kernel
theorem dX6_sumOver_7 : decode cX6_sumOver 7 = .ok (.if_icmp .ge 23, 3) := by decide +kernel
theorem dX6_sumOver_10 : decode cX6_sumOver 10 = .ok (.iload_n 1, 1) := by decide +kernel
theorem dX6_sumOver_11 : decode cX6_sumOver 11 = .ok (.iload_n 3, 1) := by decide +kernel
theorem dX6_sumOver_12 : decode cX6_sumOver 12 = .ok (.invokestatic 119, 3) := by decide +kernel
theorem dX6_sumOver_15 : decode cX6_sumOver 15 = .ok (.ifCond .eq 9, 3) := by decide +kernel
theorem dX6_sumOver_18 : decode cX6_sumOver 18 = .ok (.iload_n 2, 1) := by decide +kernel
theorem dX6_sumOver_19 : decode cX6_sumOver 19 = .ok (.aload_n 0, 1) := by decide +kernel
theorem dX6_sumOver_20 : decode cX6_sumOver 20 = .ok (.iload_n 3, 1) := by decide +kernel
theorem dX6_sumOver_21 : decode cX6_sumOver 21 = .ok (.iaload, 1) := by decide +kernel
theorem dX6_sumOver_22 : decode cX6_sumOver 22 = .ok (.iadd, 1) := by decide +kernel
theorem dX6_sumOver_23 : decode cX6_sumOver 23 = .ok (.istore_n 2, 1) := by decide +kernel
theorem dX6_sumOver_24 : decode cX6_sumOver 24 = .ok (.iinc 3 1, 3) := by decide +kernel
theorem dX6_sumOver_27 : decode cX6_sumOver 27 = .ok (.goto (-23), 3) := by decide +kernel
theorem dX6_sumOver_30 : decode cX6_sumOver 30 = .ok (.iload_n 2, 1) := by decide +kernel
theorem dX6_sumOver_31 : decode cX6_sumOver 31 = .ok (.ireturn, 1) := by decide +kernel
theorem dX6_pairsIn_0 : decode cX6_pairsIn 0 = .ok (.iconst 0, 1) := by decide +kernel
theorem dX6_pairsIn_1 : decode cX6_pairsIn 1 = .ok (.istore_n 1, 1) := by decide +kernel
theorem dX6_pairsIn_2 : decode cX6_pairsIn 2 = .ok (.iconst 0, 1) := by decide +kernel
theorem dX6_pairsIn_3 : decode cX6_pairsIn 3 = .ok (.istore_n 2, 1) := by decide +kernel
theorem dX6_pairsIn_4 : decode cX6_pairsIn 4 = .ok (.iload_n 2, 1) := by decide +kernel
theorem dX6_pairsIn_5 : decode cX6_pairsIn 5 = .ok (.aload_n 0, 1) := by decide +kernel
theorem dX6_pairsIn_6 : decode cX6_pairsIn 6 = .ok (.arraylength, 1) := by decide +kernel
theorem dX6_pairsIn_7 : decode cX6_pairsIn 7 = .ok (.if_icmp .ge 18, 3) := by decide +kernel
theorem dX6_pairsIn_10 : decode cX6_pairsIn 10 = .ok (.iload_n 1, 1) := by decide +kernel
theorem dX6_pairsIn_11 : decode cX6_pairsIn 11 = .ok (.aload_n 0, 1) := by decide +kernel
theorem dX6_pairsIn_12 : decode cX6_pairsIn 12 = .ok (.iload_n 2, 1) := by decide +kernel
theorem dX6_pairsIn_13 : decode cX6_pairsIn 13 = .ok (.iaload, 1) := by decide +kernel
theorem dX6_pairsIn_14 : decode cX6_pairsIn 14 = .ok (.invokestatic 223, 3) := by decide +kernel
theorem dX6_pairsIn_17 : decode cX6_pairsIn 17 = .ok (.iadd, 1) := by decide +kernel
theorem dX6_pairsIn_18 : decode cX6_pairsIn 18 = .ok (.istore_n 1, 1) := by decide +kernel
theorem dX6_pairsIn_19 : decode cX6_pairsIn 19 = .ok (.iinc 2 1, 3) := by decide +kernel
theorem dX6_pairsIn_22 : decode cX6_pairsIn 22 = .ok (.goto (-18), 3) := by decide +kernel
theorem dX6_pairsIn_25 : decode cX6_pairsIn 25 = .ok (.iload_n 1, 1) := by decide +kernel
theorem dX6_pairsIn_26 : decode cX6_pairsIn 26 = .ok (.iconst 2, 1) := by decide +kernel
theorem dX6_pairsIn_27 : decode cX6_pairsIn 27 = .ok (.idiv, 1) := by decide +kernel
theorem dX6_pairsIn_28 : decode cX6_pairsIn 28 = .ok (.ireturn, 1) := by decide +kernel
theorem dX6_floatBits_0 : decode cX6_floatBits 0 = .ok (.fload_n 0, 1) := by decide +kernel
theorem dX6_floatBits_1 : decode cX6_floatBits 1 = .ok (.f2d, 1) := by decide +kernel
theorem dX6_floatBits_2 : decode cX6_floatBits 2 = .ok (.bipush 23, 2) := by decide +kernel
theorem dX6_floatBits_4 : decode cX6_floatBits 4 = .ok (.bipush 127, 2) := by decide +kernel
theorem dX6_floatBits_6 : decode cX6_floatBits 6 = .ok (.invokestatic 401, 3) := by decide +kernel
theorem dX6_floatBits_9 : decode cX6_floatBits 9 = .ok (.l2i, 1) := by decide +kernel
theorem dX6_floatBits_10 : decode cX6_floatBits 10 = .ok (.ireturn, 1) := by decide +kernel
theorem dX6_doubleBits_0 : decode cX6_doubleBits 0 = .ok (.dload_n 0, 1) := by decide +kernel
theorem dX6_doubleBits_1 : decode cX6_doubleBits 1 = .ok (.bipush 52, 2) := by decide +kernel
theorem dX6_doubleBits_3 : decode cX6_doubleBits 3 = .ok (.sipush 1023, 3) := by decide +kernel
theorem dX6_doubleBits_6 : decode cX6_doubleBits 6 = .ok (.invokestatic 401, 3) := by decide +kernel
theorem dX6_doubleBits_9 : decode cX6_doubleBits 9 = .ok (.lreturn, 1) := by decide +kernel
theorem dX6_bitsOf_0 : decode cX6_bitsOf 0 = .ok (.dload_n 0, 1) := by decide +kernel
theorem dX6_bitsOf_1 : decode cX6_bitsOf 1 = .ok (.dconst 0, 1) := by decide +kernel
theorem dX6_bitsOf_2 : decode cX6_bitsOf 2 = .ok (.dcmp .l, 1) := by decide +kernel
theorem dX6_bitsOf_3 : decode cX6_bitsOf 3 = .ok (.ifCond .gt 5, 3) := by decide +kernel
theorem dX6_bitsOf_6 : decode cX6_bitsOf 6 = .ok (.lconst 0, 1) := by decide +kernel
theorem dX6_bitsOf_7 : decode cX6_bitsOf 7 = .ok (.lreturn, 1) := by decide +kernel
theorem dX6_bitsOf_8 : decode cX6_bitsOf 8 = .ok (.dload_n 0, 1) := by decide +kernel
theorem dX6_bitsOf_9 : decode cX6_bitsOf 9 = .ok (.dstore 4, 2) := by decide +kernel
theorem dX6_bitsOf_11 : decode cX6_bitsOf 11 = .ok (.iload_n 3, 1) := by decide +kernel
theorem dX6_bitsOf_12 : decode cX6_bitsOf 12 = .ok (.istore 6, 2) := by decide +kernel
theorem dX6_bitsOf_14 : decode cX6_bitsOf 14 = .ok (.dload 4, 2) := by decide +kernel
theorem dX6_bitsOf_16 : decode cX6_bitsOf 16 = .ok (.ldc2_w 405, 3) := by decide +kernel
theorem dX6_bitsOf_19 : decode cX6_bitsOf 19 = .ok (.dcmp .l, 1) := by decide +kernel
theorem dX6_bitsOf_20 : decode cX6_bitsOf 20 = .ok (.ifCond .lt 25, 3) := by decide +kernel
theorem dX6_bitsOf_23 : decode cX6_bitsOf 23 = .ok (.iload 6, 2) := by decide +kernel
theorem dX6_bitsOf_25 : decode cX6_bitsOf 25 = .ok (.iconst 2, 1) := by decide +kernel
theorem dX6_bitsOf_26 : decode cX6_bitsOf 26 = .ok (.iload_n 3, 1) := by decide +kernel
theorem dX6_bitsOf_27 : decode cX6_bitsOf 27 = .ok (.imul, 1) := by decide +kernel
theorem dX6_bitsOf_28 : decode cX6_bitsOf 28 = .ok (.if_icmp .ge 17, 3) := by decide +kernel
theorem dX6_bitsOf_31 : decode cX6_bitsOf 31 = .ok (.dload 4, 2) := by decide +kernel
theorem dX6_bitsOf_33 : decode cX6_bitsOf 33 = .ok (.ldc2_w 405, 3) := by decide +kernel
theorem dX6_bitsOf_36 : decode cX6_bitsOf 36 = .ok (.ddiv, 1) := by decide +kernel
theorem dX6_bitsOf_37 : decode cX6_bitsOf 37 = .ok (.dstore 4, 2) := by decide +kernel
theorem dX6_bitsOf_39 : decode cX6_bitsOf 39 = .ok (.iinc 6 1, 3) := by decide +kernel
theorem dX6_bitsOf_42 : decode cX6_bitsOf 42 = .ok (.goto (-28), 3) := by decide +kernel
theorem dX6_bitsOf_45 : decode cX6_bitsOf 45 = .ok (.dload 4, 2) := by decide +kernel
theorem dX6_bitsOf_47 : decode cX6_bitsOf 47 = .ok (.dconst 1, 1) := by decide +kernel
theorem dX6_bitsOf_48 : decode cX6_bitsOf 48 = .ok (.dcmp .g, 1) := by decide +kernel
theorem dX6_bitsOf_49 : decode cX6_bitsOf 49 = .ok (.ifCond .ge 23, 3) := by decide +kernel
theorem dX6_bitsOf_52 : decode cX6_bitsOf 52 = .ok (.iload 6, 2) := by decide +kernel
theorem dX6_bitsOf_54 : decode cX6_bitsOf 54 = .ok (.iconst 1, 1) := by decide +kernel
theorem dX6_bitsOf_55 : decode cX6_bitsOf 55 = .ok (.if_icmp .le 17, 3) := by decide +kernel
theorem dX6_bitsOf_58 : decode cX6_bitsOf 58 = .ok (.dload 4, 2) := by decide +kernel
theorem dX6_bitsOf_60 : decode cX6_bitsOf 60 = .ok (.ldc2_w 405, 3) := by decide +kernel
theorem dX6_bitsOf_63 : decode cX6_bitsOf 63 = .ok (.dmul, 1) := by decide +kernel
theorem dX6_bitsOf_64 : decode cX6_bitsOf 64 = .ok (.dstore 4, 2) := by decide +kernel
theorem dX6_bitsOf_66 : decode cX6_bitsOf 66 = .ok (.iinc 6 (-1), 3) := by decide +kernel
theorem dX6_bitsOf_69 : decode cX6_bitsOf 69 = .ok (.goto (-24), 3) := by decide +kernel
theorem dX6_bitsOf_72 : decode cX6_bitsOf 72 = .ok (.iload 6, 2) := by decide +kernel
theorem dX6_bitsOf_74 : decode cX6_bitsOf 74 = .ok (.i2l, 1) := by decide +kernel
theorem dX6_bitsOf_75 : decode cX6_bitsOf 75 = .ok (.iload_n 2, 1) := by decide +kernel
theorem dX6_bitsOf_76 : decode cX6_bitsOf 76 = .ok (.lshl, 1) := by decide +kernel
theorem dX6_bitsOf_77 : decode cX6_bitsOf 77 = .ok (.dload 4, 2) := by decide +kernel
theorem dX6_bitsOf_79 : decode cX6_bitsOf 79 = .ok (.dconst 1, 1) := by decide +kernel
theorem dX6_bitsOf_80 : decode cX6_bitsOf 80 = .ok (.dsub, 1) := by decide +kernel
theorem dX6_bitsOf_81 : decode cX6_bitsOf 81 = .ok (.lconst 1, 1) := by decide +kernel
theorem dX6_bitsOf_82 : decode cX6_bitsOf 82 = .ok (.iload_n 2, 1) := by decide +kernel
theorem dX6_bitsOf_83 : decode cX6_bitsOf 83 = .ok (.lshl, 1) := by decide +kernel
theorem dX6_bitsOf_84 : decode cX6_bitsOf 84 = .ok (.l2d, 1) := by decide +kernel
theorem dX6_bitsOf_85 : decode cX6_bitsOf 85 = .ok (.dmul, 1) := by decide +kernel
theorem dX6_bitsOf_86 : decode cX6_bitsOf 86 = .ok (.d2l, 1) := by decide +kernel
theorem dX6_bitsOf_87 : decode cX6_bitsOf 87 = .ok (.ladd, 1) := by decide +kernel
theorem dX6_bitsOf_88 : decode cX6_bitsOf 88 = .ok (.lreturn, 1) := by decide +kernel
