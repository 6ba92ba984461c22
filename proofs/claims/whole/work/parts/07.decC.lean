theorem dX7_init_0 : decode cX7_init 0 = .ok (.aload_n 0, 1) := by decide +kernel
theorem dX7_init_1 : decode cX7_init 1 = .ok (.invokespecial 3, 3) := by decide +kernel
theorem dX7_init_4 : decode cX7_init 4 = .ok (.aload_n 0, 1) := by decide +kernel
theorem dX7_init_5 : decode cX7_init 5 = .ok (.sipush 2764, 3) := by decide +kernel
theorem dX7_init_8 : decode cX7_init 8 = .ok (.newarray .int, 2) := by decide +kernel
theorem dX7_init_10 : decode cX7_init 10 = .ok (.putfield 9, 3) := by decide +kernel
theorem dX7_init_13 : decode cX7_init 13 = .ok (.aload_n 0, 1) := by decide +kernel
theorem dX7_init_14 : decode cX7_init 14 = .ok (.sipush 2764, 3) := by decide +kernel
theorem dX7_init_17 : decode cX7_init 17 = .ok (.newarray .int, 2) := by decide +kernel
theorem dX7_init_19 : decode cX7_init 19 = .ok (.putfield 13, 3) := by decide +kernel
theorem dX7_init_22 : decode cX7_init 22 = .ok (.aload_n 0, 1) := by decide +kernel
theorem dX7_init_23 : decode cX7_init 23 = .ok (.bipush 40, 2) := by decide +kernel
theorem dX7_init_25 : decode cX7_init 25 = .ok (.newarray .int, 2) := by decide +kernel
theorem dX7_init_27 : decode cX7_init 27 = .ok (.putfield 16, 3) := by decide +kernel
theorem dX7_init_30 : decode cX7_init 30 = .ok (.aload_n 0, 1) := by decide +kernel
theorem dX7_init_31 : decode cX7_init 31 = .ok (.bipush 12, 2) := by decide +kernel
theorem dX7_init_33 : decode cX7_init 33 = .ok (.newarray .int, 2) := by decide +kernel
theorem dX7_init_35 : decode cX7_init 35 = .ok (.putfield 19, 3) := by decide +kernel
theorem dX7_init_38 : decode cX7_init 38 = .ok (.aload_n 0, 1) := by decide +kernel
theorem dX7_init_39 : decode cX7_init 39 = .ok (.bipush 12, 2) := by decide +kernel
theorem dX7_init_41 : decode cX7_init 41 = .ok (.newarray .int, 2) := by decide +kernel
theorem dX7_init_43 : decode cX7_init 43 = .ok (.putfield 22, 3) := by decide +kernel
theorem dX7_init_46 : decode cX7_init 46 = .ok (.aload_n 0, 1) := by decide +kernel
theorem dX7_init_47 : decode cX7_init 47 = .ok (.iconst (-1), 1) := by decide +kernel
theorem dX7_init_48 : decode cX7_init 48 = .ok (.putfield 25, 3) := by decide +kernel
theorem dX7_init_51 : decode cX7_init 51 = .ok (.aload_n 0, 1) := by decide +kernel
theorem dX7_init_52 : decode cX7_init 52 = .ok (.sipush 700, 3) := by decide +kernel
theorem dX7_init_55 : decode cX7_init 55 = .ok (.newarray .int, 2) := by decide +kernel
theorem dX7_init_57 : decode cX7_init 57 = .ok (.putfield 29, 3) := by decide +kernel
theorem dX7_init_60 : decode cX7_init 60 = .ok (.aload_n 0, 1) := by decide +kernel
theorem dX7_init_61 : decode cX7_init 61 = .ok (.bipush 13, 2) := by decide +kernel
theorem dX7_init_63 : decode cX7_init 63 = .ok (.bipush 12, 2) := by decide +kernel
theorem dX7_init_65 : decode cX7_init 65 = .ok (.multianewarray 32 2, 4) := by decide +kernel
theorem dX7_init_69 : decode cX7_init 69 = .ok (.putfield 34, 3) := by decide +kernel
theorem dX7_init_72 : decode cX7_init 72 = .ok (.aload_n 0, 1) := by decide +kernel
theorem dX7_init_73 : decode cX7_init 73 = .ok (.bipush 12, 2) := by decide +kernel
theorem dX7_init_75 : decode cX7_init 75 = .ok (.newarray .int, 2) := by decide +kernel
theorem dX7_init_77 : decode cX7_init 77 = .ok (.putfield 37, 3) := by decide +kernel
theorem dX7_init_80 : decode cX7_init 80 = .ok (.aload_n 0, 1) := by decide +kernel
theorem dX7_init_81 : decode cX7_init 81 = .ok (.bipush 12, 2) := by decide +kernel
theorem dX7_init_83 : decode cX7_init 83 = .ok (.newarray .int, 2) := by decide +kernel
theorem dX7_init_85 : decode cX7_init 85 = .ok (.putfield 40, 3) := by decide +kernel
theorem dX7_init_88 : decode cX7_init 88 = .ok (.aload_n 0, 1) := by decide +kernel
theorem dX7_init_89 : decode cX7_init 89 = .ok (.getfield 9, 3) := by decide +kernel
theorem dX7_init_92 : decode cX7_init 92 = .ok (.iconst 1, 1) := by decide +kernel
theorem dX7_init_93 : decode cX7_init 93 = .ok (.sipush 255, 3) := by decide +kernel
theorem dX7_init_96 : decode cX7_init 96 = .ok (.iastore, 1) := by decide +kernel
theorem dX7_init_97 : decode cX7_init 97 = .ok (.return_, 1) := by decide +kernel
theorem dX7_thrown_0 : decode cX7_thrown 0 = .ok (.aload_n 0, 1) := by decide +kernel
theorem dX7_thrown_1 : decode cX7_thrown 1 = .ok (.getfield 43, 3) := by decide +kernel
theorem dX7_thrown_4 : decode cX7_thrown 4 = .ok (.ireturn, 1) := by decide +kernel
theorem dX7_isBetween_0 : decode cX7_isBetween 0 = .ok (.iload_n 0, 1) := by decide +kernel
theorem dX7_isBetween_1 : decode cX7_isBetween 1 = .ok (.iload_n 1, 1) := by decide +kernel
theorem dX7_isBetween_2 : decode cX7_isBetween 2 = .ok (.if_icmp .lt 12, 3) := by decide +kernel
theorem dX7_isBetween_5 : decode cX7_isBetween 5 = .ok (.iload_n 0, 1) := by decide +kernel
theorem dX7_isBetween_6 : decode cX7_isBetween 6 = .ok (.iload_n 2, 1) := by decide +kernel
theorem dX7_isBetween_7 : decode cX7_isBetween 7 = .ok (.if_icmp .gt 7, 3) := by decide +kernel
theorem dX7_isBetween_10 : decode cX7_isBetween 10 = .ok (.iconst 1, 1) := by decide +kernel
theorem dX7_isBetween_11 : decode cX7_isBetween 11 = .ok (.goto 4, 3) := by decide +kernel
theorem dX7_isBetween_14 : decode cX7_isBetween 14 = .ok (.iconst 0, 1) := by decide +kernel
theorem dX7_isBetween_15 : decode cX7_isBetween 15 = .ok (.ireturn, 1) := by decide +kernel
theorem dX7_has_0 : decode cX7_has 0 = .ok (.iload_n 0, 1) := by decide +kernel
theorem dX7_has_1 : decode cX7_has 1 = .ok (.iload_n 1, 1) := by decide +kernel
theorem dX7_has_2 : decode cX7_has 2 = .ok (.ishr, 1) := by decide +kernel
theorem dX7_has_3 : decode cX7_has 3 = .ok (.iconst 1, 1) := by decide +kernel
theorem dX7_has_4 : decode cX7_has 4 = .ok (.iand, 1) := by decide +kernel
theorem dX7_has_5 : decode cX7_has 5 = .ok (.iconst 1, 1) := by decide +kernel
theorem dX7_has_6 : decode cX7_has 6 = .ok (.if_icmp .ne 7, 3) := by decide +kernel
theorem dX7_has_9 : decode cX7_has 9 = .ok (.iconst 1, 1) := by decide +kernel
theorem dX7_has_10 : decode cX7_has 10 = .ok (.goto 4, 3) := by decide +kernel
theorem dX7_has_13 : decode cX7_has 13 = .ok (.iconst 0, 1) := by decide +kernel
theorem dX7_has_14 : decode cX7_has 14 = .ok (.ireturn, 1) := by decide +kernel
theorem dX7_countBits_0 : decode cX7_countBits 0 = .ok (.iconst 0, 1) := by decide +kernel
theorem dX7_countBits_1 : decode cX7_countBits 1 = .ok (.istore_n 1, 1) := by decide +kernel
theorem dX7_countBits_2 : decode cX7_countBits 2 = .ok (.iload_n 0, 1) := by decide +kernel
theorem dX7_countBits_3 : decode cX7_countBits 3 = .ok (.istore_n 2, 1) := by decide +kernel
theorem dX7_countBits_4 : decode cX7_countBits 4 = .ok (.iload_n 2, 1) := by decide +kernel
theorem dX7_countBits_5 : decode cX7_countBits 5 = .ok (.ifCond .eq 15, 3) := by decide +kernel
theorem dX7_countBits_8 : decode cX7_countBits 8 = .ok (.iinc 1 1, 3) := by decide +kernel
theorem dX7_countBits_11 : decode cX7_countBits 11 = .ok (.iload_n 2, 1) := by decide +kernel
theorem dX7_countBits_12 : decode cX7_countBits 12 = .ok (.iload_n 2, 1) := by decide +kernel
theorem dX7_countBits_13 : decode cX7_countBits 13 = .ok (.iconst 1, 1) := by decide +kernel
theorem dX7_countBits_14 : decode cX7_countBits 14 = .ok (.isub, 1) := by decide +kernel
theorem dX7_countBits_15 : decode cX7_countBits 15 = .ok (.iand, 1) := by decide +kernel
theorem dX7_countBits_16 : decode cX7_countBits 16 = .ok (.istore_n 2, 1) := by decide +kernel
theorem dX7_countBits_17 : decode cX7_countBits 17 = .ok (.goto (-13), 3) := by decide +kernel
theorem dX7_countBits_20 : decode cX7_countBits 20 = .ok (.iload_n 1, 1) := by decide +kernel
theorem dX7_countBits_21 : decode cX7_countBits 21 = .ok (.ireturn, 1) := by decide +kernel
theorem dX7_copy_0 : decode cX7_copy 0 = .ok (.iconst 0, 1) := by decide +kernel
theorem dX7_copy_1 : decode cX7_copy 1 = .ok (.istore_n 2, 1) := by decide +kernel
theorem dX7_copy_2 : decode cX7_copy 2 = .ok (.iload_n 2, 1) := by decide +kernel
theorem dX7_copy_3 : decode cX7_copy 3 = .ok (.aload_n 0, 1) := by decide +kernel
theorem dX7_copy_4 : decode cX7_copy 4 = .ok (.arraylength, 1) := by decide +kernel
theorem dX7_copy_5 : decode cX7_copy 5 = .ok (.if_icmp .ge 15, 3) := by decide +kernel
theorem dX7_copy_8 : decode cX7_copy 8 = .ok (.aload_n 1, 1) := by decide +kernel
theorem dX7_copy_9 : decode cX7_copy 9 = .ok (.iload_n 2, 1) := by decide +kernel
theorem dX7_copy_10 : decode cX7_copy 10 = .ok (.aload_n 0, 1) := by decide +kernel
theorem dX7_copy_11 : decode cX7_copy 11 = .ok (.iload_n 2, 1) := by decide +kernel
theorem dX7_copy_12 : decode cX7_copy 12 = .ok (.iaload, 1) := by decide +kernel
theorem dX7_copy_13 : decode cX7_copy 13 = .ok (.iastore, 1) := by decide +kernel
theorem dX7_copy_14 : decode cX7_copy 14 = .ok (.iinc 2 1, 3) := by decide +kernel
theorem dX7_copy_17 : decode cX7_copy 17 = .ok (.goto (-15), 3) := by decide +kernel
theorem dX7_copy_20 : decode cX7_copy 20 = .ok (.return_, 1) := by decide +kernel
theorem dX7_fails_0 : decode cX7_fails 0 = .ok (.aload_n 0, 1) := by decide +kernel
theorem dX7_fails_1 : decode cX7_fails 1 = .ok (.iload_n 2, 1) := by decide +kernel
theorem dX7_fails_2 : decode cX7_fails 2 = .ok (.ifCond .eq 7, 3) := by decide +kernel
theorem dX7_fails_5 : decode cX7_fails 5 = .ok (.iload_n 1, 1) := by decide +kernel
theorem dX7_fails_6 : decode cX7_fails 6 = .ok (.goto 4, 3) := by decide +kernel
theorem dX7_fails_9 : decode cX7_fails 9 = .ok (.iconst 0, 1) := by decide +kernel
theorem dX7_fails_10 : decode cX7_fails 10 = .ok (.putfield 43, 3) := by decide +kernel
theorem dX7_fails_13 : decode cX7_fails 13 = .ok (.iload_n 2, 1) := by decide +kernel
theorem dX7_fails_14 : decode cX7_fails 14 = .ok (.ireturn, 1) := by decide +kernel
theorem dX7_isStation_0 : decode cX7_isStation 0 = .ok (.iload_n 1, 1) := by decide +kernel
theorem dX7_isStation_1 : decode cX7_isStation 1 = .ok (.iconst 0, 1) := by decide +kernel
theorem dX7_isStation_2 : decode cX7_isStation 2 = .ok (.aload_n 0, 1) := by decide +kernel
theorem dX7_isStation_3 : decode cX7_isStation 3 = .ok (.getfield 9, 3) := by decide +kernel
theorem dX7_isStation_6 : decode cX7_isStation 6 = .ok (.iconst 0, 1) := by decide +kernel
theorem dX7_isStation_7 : decode cX7_isStation 7 = .ok (.iaload, 1) := by decide +kernel
theorem dX7_isStation_8 : decode cX7_isStation 8 = .ok (.iconst 1, 1) := by decide +kernel
theorem dX7_isStation_9 : decode cX7_isStation 9 = .ok (.isub, 1) := by decide +kernel
theorem dX7_isStation_10 : decode cX7_isStation 10 = .ok (.invokestatic 46, 3) := by decide +kernel
theorem dX7_isStation_13 : decode cX7_isStation 13 = .ok (.ireturn, 1) := by decide +kernel
theorem dX7_isChannels_0 : decode cX7_isChannels 0 = .ok (.iload_n 0, 1) := by decide +kernel
theorem dX7_isChannels_1 : decode cX7_isChannels 1 = .ok (.iconst 0, 1) := by decide +kernel
theorem dX7_isChannels_2 : decode cX7_isChannels 2 = .ok (.sipush 255, 3) := by decide +kernel
theorem dX7_isChannels_5 : decode cX7_isChannels 5 = .ok (.invokestatic 46, 3) := by decide +kernel
theorem dX7_isChannels_8 : decode cX7_isChannels 8 = .ok (.ireturn, 1) := by decide +kernel
theorem dX7_isKnown_0 : decode cX7_isKnown 0 = .ok (.aload_n 0, 1) := by decide +kernel
theorem dX7_isKnown_1 : decode cX7_isKnown 1 = .ok (.getfield 9, 3) := by decide +kernel
theorem dX7_isKnown_4 : decode cX7_isKnown 4 = .ok (.iconst 2, 1) := by decide +kernel
theorem dX7_isKnown_5 : decode cX7_isKnown 5 = .ok (.iaload, 1) := by decide +kernel
theorem dX7_isKnown_6 : decode cX7_isKnown 6 = .ok (.iconst 1, 1) := by decide +kernel
theorem dX7_isKnown_7 : decode cX7_isKnown 7 = .ok (.if_icmp .ne 7, 3) := by decide +kernel
theorem dX7_isKnown_10 : decode cX7_isKnown 10 = .ok (.iconst 1, 1) := by decide +kernel
theorem dX7_isKnown_11 : decode cX7_isKnown 11 = .ok (.goto 4, 3) := by decide +kernel
theorem dX7_isKnown_14 : decode cX7_isKnown 14 = .ok (.iconst 0, 1) := by decide +kernel
theorem dX7_isKnown_15 : decode cX7_isKnown 15 = .ok (.ireturn, 1) := by decide +kernel
theorem dX7_addStation_0 : decode cX7_addStation 0 = .ok (.aload_n 0, 1) := by decide +kernel
theorem dX7_addStation_1 : decode cX7_addStation 1 = .ok (.iconst 1, 1) := by decide +kernel
theorem dX7_addStation_2 : decode cX7_addStation 2 = .ok (.iload_n 1, 1) := by decide +kernel
theorem dX7_addStation_3 : decode cX7_addStation 3 = .ok (.invokestatic 50, 3) := by decide +kernel
theorem dX7_addStation_6 : decode cX7_addStation 6 = .ok (.ifCond .eq 24, 3) := by decide +kernel
theorem dX7_addStation_9 : decode cX7_addStation 9 = .ok (.iload_n 2, 1) := by decide +kernel
theorem dX7_addStation_10 : decode cX7_addStation 10 = .ok (.iconst 0, 1) := by decide +kernel
theorem dX7_addStation_11 : decode cX7_addStation 11 = .ok (.sipush 9999, 3) := by decide +kernel
theorem dX7_addStation_14 : decode cX7_addStation 14 = .ok (.invokestatic 46, 3) := by decide +kernel
theorem dX7_addStation_17 : decode cX7_addStation 17 = .ok (.ifCond .eq 13, 3) := by decide +kernel
theorem dX7_addStation_20 : decode cX7_addStation 20 = .ok (.iload_n 3, 1) := by decide +kernel
theorem dX7_addStation_21 : decode cX7_addStation 21 = .ok (.iconst 1, 1) := by decide +kernel
theorem dX7_addStation_22 : decode cX7_addStation 22 = .ok (.bipush 99, 2) := by decide +kernel
theorem dX7_addStation_24 : decode cX7_addStation 24 = .ok (.invokestatic 46, 3) := by decide +kernel
theorem dX7_addStation_27 : decode cX7_addStation 27 = .ok (.ifCond .ne 7, 3) := by decide +kernel
theorem dX7_addStation_30 : decode cX7_addStation 30 = .ok (.iconst 1, 1) := by decide +kernel
theorem dX7_addStation_31 : decode cX7_addStation 31 = .ok (.goto 4, 3) := by decide +kernel
theorem dX7_addStation_34 : decode cX7_addStation 34 = .ok (.iconst 0, 1) := by decide +kernel
theorem dX7_addStation_35 : decode cX7_addStation 35 = .ok (.invokevirtual 54, 3) := by decide +kernel
theorem dX7_addStation_38 : decode cX7_addStation 38 = .ok (.ifCond .ne 39, 3) := by decide +kernel
theorem dX7_addStation_41 : decode cX7_addStation 41 = .ok (.aload_n 0, 1) := by decide +kernel
theorem dX7_addStation_42 : decode cX7_addStation 42 = .ok (.iconst 2, 1) := by decide +kernel
theorem dX7_addStation_43 : decode cX7_addStation 43 = .ok (.aload_n 0, 1) := by decide +kernel
theorem dX7_addStation_44 : decode cX7_addStation 44 = .ok (.invokevirtual 58, 3) := by decide +kernel
theorem dX7_addStation_47 : decode cX7_addStation 47 = .ok (.invokevirtual 54, 3) := by decide +kernel
theorem dX7_addStation_50 : decode cX7_addStation 50 = .ok (.ifCond .ne 27, 3) := by decide +kernel
theorem dX7_addStation_53 : decode cX7_addStation 53 = .ok (.aload_n 0, 1) := by decide +kernel
theorem dX7_addStation_54 : decode cX7_addStation 54 = .ok (.iconst 3, 1) := by decide +kernel
theorem dX7_addStation_55 : decode cX7_addStation 55 = .ok (.aload_n 0, 1) := by decide +kernel
theorem dX7_addStation_56 : decode cX7_addStation 56 = .ok (.getfield 9, 3) := by decide +kernel
theorem dX7_addStation_59 : decode cX7_addStation 59 = .ok (.iconst 0, 1) := by decide +kernel
theorem dX7_addStation_60 : decode cX7_addStation 60 = .ok (.iaload, 1) := by decide +kernel
theorem dX7_addStation_61 : decode cX7_addStation 61 = .ok (.bipush 12, 2) := by decide +kernel
theorem dX7_addStation_63 : decode cX7_addStation 63 = .ok (.if_icmp .ne 7, 3) := by decide +kernel
theorem dX7_addStation_66 : decode cX7_addStation 66 = .ok (.iconst 1, 1) := by decide +kernel
theorem dX7_addStation_67 : decode cX7_addStation 67 = .ok (.goto 4, 3) := by decide +kernel
theorem dX7_addStation_70 : decode cX7_addStation 70 = .ok (.iconst 0, 1) := by decide +kernel
theorem dX7_addStation_71 : decode cX7_addStation 71 = .ok (.invokevirtual 54, 3) := by decide +kernel
theorem dX7_addStation_74 : decode cX7_addStation 74 = .ok (.ifCond .eq 5, 3) := by decide +kernel
theorem dX7_addStation_77 : decode cX7_addStation 77 = .ok (.iconst 0, 1) := by decide +kernel
theorem dX7_addStation_78 : decode cX7_addStation 78 = .ok (.ireturn, 1) := by decide +kernel
theorem dX7_addStation_79 : decode cX7_addStation 79 = .ok (.aload_n 0, 1) := by decide +kernel
theorem dX7_addStation_80 : decode cX7_addStation 80 = .ok (.getfield 9, 3) := by decide +kernel
theorem dX7_addStation_83 : decode cX7_addStation 83 = .ok (.iconst 0, 1) := by decide +kernel
theorem dX7_addStation_84 : decode cX7_addStation 84 = .ok (.iaload, 1) := by decide +kernel
theorem dX7_addStation_85 : decode cX7_addStation 85 = .ok (.istore 4, 2) := by decide +kernel
theorem dX7_addStation_87 : decode cX7_addStation 87 = .ok (.aload_n 0, 1) := by decide +kernel
theorem dX7_addStation_88 : decode cX7_addStation 88 = .ok (.getfield 9, 3) := by decide +kernel
theorem dX7_addStation_91 : decode cX7_addStation 91 = .ok (.iconst 4, 1) := by decide +kernel
theorem dX7_addStation_92 : decode cX7_addStation 92 = .ok (.iload 4, 2) := by decide +kernel
theorem dX7_addStation_94 : decode cX7_addStation 94 = .ok (.iadd, 1) := by decide +kernel
theorem dX7_addStation_95 : decode cX7_addStation 95 = .ok (.iload_n 1, 1) := by decide +kernel
theorem dX7_addStation_96 : decode cX7_addStation 96 = .ok (.iastore, 1) := by decide +kernel
theorem dX7_addStation_97 : decode cX7_addStation 97 = .ok (.aload_n 0, 1) := by decide +kernel
theorem dX7_addStation_98 : decode cX7_addStation 98 = .ok (.getfield 9, 3) := by decide +kernel
theorem dX7_addStation_101 : decode cX7_addStation 101 = .ok (.bipush 16, 2) := by decide +kernel
theorem dX7_addStation_103 : decode cX7_addStation 103 = .ok (.iload 4, 2) := by decide +kernel
theorem dX7_addStation_105 : decode cX7_addStation 105 = .ok (.iadd, 1) := by decide +kernel
theorem dX7_addStation_106 : decode cX7_addStation 106 = .ok (.iload_n 2, 1) := by decide +kernel
theorem dX7_addStation_107 : decode cX7_addStation 107 = .ok (.iastore, 1) := by decide +kernel
theorem dX7_addStation_108 : decode cX7_addStation 108 = .ok (.aload_n 0, 1) := by decide +kernel
theorem dX7_addStation_109 : decode cX7_addStation 109 = .ok (.getfield 9, 3) := by decide +kernel
theorem dX7_addStation_112 : decode cX7_addStation 112 = .ok (.bipush 28, 2) := by decide +kernel
theorem dX7_addStation_114 : decode cX7_addStation 114 = .ok (.iload 4, 2) := by decide +kernel
theorem dX7_addStation_116 : decode cX7_addStation 116 = .ok (.iadd, 1) := by decide +kernel
theorem dX7_addStation_117 : decode cX7_addStation 117 = .ok (.iload_n 3, 1) := by decide +kernel
theorem dX7_addStation_118 : decode cX7_addStation 118 = .ok (.iastore, 1) := by decide +kernel
theorem dX7_addStation_119 : decode cX7_addStation 119 = .ok (.aload_n 0, 1) := by decide +kernel
theorem dX7_addStation_120 : decode cX7_addStation 120 = .ok (.getfield 9, 3) := by decide +kernel
theorem dX7_addStation_123 : decode cX7_addStation 123 = .ok (.bipush 40, 2) := by decide +kernel
theorem dX7_addStation_125 : decode cX7_addStation 125 = .ok (.iload 4, 2) := by decide +kernel
theorem dX7_addStation_127 : decode cX7_addStation 127 = .ok (.iadd, 1) := by decide +kernel
theorem dX7_addStation_128 : decode cX7_addStation 128 = .ok (.iconst 1, 1) := by decide +kernel
theorem dX7_addStation_129 : decode cX7_addStation 129 = .ok (.iastore, 1) := by decide +kernel
theorem dX7_addStation_130 : decode cX7_addStation 130 = .ok (.aload_n 0, 1) := by decide +kernel
theorem dX7_addStation_131 : decode cX7_addStation 131 = .ok (.getfield 9, 3) := by decide +kernel
theorem dX7_addStation_134 : decode cX7_addStation 134 = .ok (.bipush 52, 2) := by decide +kernel
theorem dX7_addStation_136 : decode cX7_addStation 136 = .ok (.iload 4, 2) := by decide +kernel
theorem dX7_addStation_138 : decode cX7_addStation 138 = .ok (.iadd, 1) := by decide +kernel
theorem dX7_addStation_139 : decode cX7_addStation 139 = .ok (.iconst (-1), 1) := by decide +kernel
theorem dX7_addStation_140 : decode cX7_addStation 140 = .ok (.iastore, 1) := by decide +kernel
theorem dX7_addStation_141 : decode cX7_addStation 141 = .ok (.aload_n 0, 1) := by decide +kernel
theorem dX7_addStation_142 : decode cX7_addStation 142 = .ok (.getfield 9, 3) := by decide +kernel
theorem dX7_addStation_145 : decode cX7_addStation 145 = .ok (.bipush 64, 2) := by decide +kernel
theorem dX7_addStation_147 : decode cX7_addStation 147 = .ok (.iload 4, 2) := by decide +kernel
theorem dX7_addStation_149 : decode cX7_addStation 149 = .ok (.iadd, 1) := by decide +kernel
theorem dX7_addStation_150 : decode cX7_addStation 150 = .ok (.iconst 0, 1) := by decide +kernel
theorem dX7_addStation_151 : decode cX7_addStation 151 = .ok (.iastore, 1) := by decide +kernel
theorem dX7_addStation_152 : decode cX7_addStation 152 = .ok (.aload_n 0, 1) := by decide +kernel
theorem dX7_addStation_153 : decode cX7_addStation 153 = .ok (.getfield 9, 3) := by decide +kernel
theorem dX7_addStation_156 : decode cX7_addStation 156 = .ok (.bipush 76, 2) := by decide +kernel
theorem dX7_addStation_158 : decode cX7_addStation 158 = .ok (.iload 4, 2) := by decide +kernel
theorem dX7_addStation_160 : decode cX7_addStation 160 = .ok (.iadd, 1) := by decide +kernel
theorem dX7_addStation_161 : decode cX7_addStation 161 = .ok (.iconst 0, 1) := by decide +kernel
theorem dX7_addStation_162 : decode cX7_addStation 162 = .ok (.iastore, 1) := by decide +kernel
theorem dX7_addStation_163 : decode cX7_addStation 163 = .ok (.aload_n 0, 1) := by decide +kernel
theorem dX7_addStation_164 : decode cX7_addStation 164 = .ok (.getfield 9, 3) := by decide +kernel
theorem dX7_addStation_167 : decode cX7_addStation 167 = .ok (.iconst 0, 1) := by decide +kernel
theorem dX7_addStation_168 : decode cX7_addStation 168 = .ok (.dup2, 1) := by decide +kernel
theorem dX7_addStation_169 : decode cX7_addStation 169 = .ok (.iaload, 1) := by decide +kernel
theorem dX7_addStation_170 : decode cX7_addStation 170 = .ok (.iconst 1, 1) := by decide +kernel
theorem dX7_addStation_171 : decode cX7_addStation 171 = .ok (.iadd, 1) := by decide +kernel
theorem dX7_addStation_172 : decode cX7_addStation 172 = .ok (.iastore, 1) := by decide +kernel
theorem dX7_addStation_173 : decode cX7_addStation 173 = .ok (.iload 4, 2) := by decide +kernel
theorem dX7_addStation_175 : decode cX7_addStation 175 = .ok (.ireturn, 1) := by decide +kernel
theorem dX7_removeStation_0 : decode cX7_removeStation 0 = .ok (.aload_n 0, 1) := by decide +kernel
theorem dX7_removeStation_1 : decode cX7_removeStation 1 = .ok (.iconst 1, 1) := by decide +kernel
theorem dX7_removeStation_2 : decode cX7_removeStation 2 = .ok (.aload_n 0, 1) := by decide +kernel
theorem dX7_removeStation_3 : decode cX7_removeStation 3 = .ok (.invokevirtual 58, 3) := by decide +kernel
theorem dX7_removeStation_6 : decode cX7_removeStation 6 = .ok (.invokevirtual 54, 3) := by decide +kernel
theorem dX7_removeStation_9 : decode cX7_removeStation 9 = .ok (.ifCond .ne 25, 3) := by decide +kernel
theorem dX7_removeStation_12 : decode cX7_removeStation 12 = .ok (.aload_n 0, 1) := by decide +kernel
theorem dX7_removeStation_13 : decode cX7_removeStation 13 = .ok (.iconst 2, 1) := by decide +kernel
theorem dX7_removeStation_14 : decode cX7_removeStation 14 = .ok (.aload_n 0, 1) := by decide +kernel
theorem dX7_removeStation_15 : decode cX7_removeStation 15 = .ok (.getfield 9, 3) := by decide +kernel
theorem dX7_removeStation_18 : decode cX7_removeStation 18 = .ok (.iconst 0, 1) := by decide +kernel
theorem dX7_removeStation_19 : decode cX7_removeStation 19 = .ok (.iaload, 1) := by decide +kernel
theorem dX7_removeStation_20 : decode cX7_removeStation 20 = .ok (.ifCond .ne 7, 3) := by decide +kernel
theorem dX7_removeStation_23 : decode cX7_removeStation 23 = .ok (.iconst 1, 1) := by decide +kernel
theorem dX7_removeStation_24 : decode cX7_removeStation 24 = .ok (.goto 4, 3) := by decide +kernel
theorem dX7_removeStation_27 : decode cX7_removeStation 27 = .ok (.iconst 0, 1) := by decide +kernel
theorem dX7_removeStation_28 : decode cX7_removeStation 28 = .ok (.invokevirtual 54, 3) := by decide +kernel
theorem dX7_removeStation_31 : decode cX7_removeStation 31 = .ok (.ifCond .eq 5, 3) := by decide +kernel
theorem dX7_removeStation_34 : decode cX7_removeStation 34 = .ok (.iconst 0, 1) := by decide +kernel
theorem dX7_removeStation_35 : decode cX7_removeStation 35 = .ok (.ireturn, 1) := by decide +kernel
theorem dX7_removeStation_36 : decode cX7_removeStation 36 = .ok (.aload_n 0, 1) := by decide +kernel
theorem dX7_removeStation_37 : decode cX7_removeStation 37 = .ok (.getfield 9, 3) := by decide +kernel
theorem dX7_removeStation_40 : decode cX7_removeStation 40 = .ok (.iconst 0, 1) := by decide +kernel
theorem dX7_removeStation_41 : decode cX7_removeStation 41 = .ok (.dup2, 1) := by decide +kernel
theorem dX7_removeStation_42 : decode cX7_removeStation 42 = .ok (.iaload, 1) := by decide +kernel
theorem dX7_removeStation_43 : decode cX7_removeStation 43 = .ok (.iconst 1, 1) := by decide +kernel
theorem dX7_removeStation_44 : decode cX7_removeStation 44 = .ok (.isub, 1) := by decide +kernel
theorem dX7_removeStation_45 : decode cX7_removeStation 45 = .ok (.iastore, 1) := by decide +kernel
theorem dX7_removeStation_46 : decode cX7_removeStation 46 = .ok (.iconst 0, 1) := by decide +kernel
theorem dX7_removeStation_47 : decode cX7_removeStation 47 = .ok (.istore_n 1, 1) := by decide +kernel
theorem dX7_removeStation_48 : decode cX7_removeStation 48 = .ok (.iload_n 1, 1) := by decide +kernel
theorem dX7_removeStation_49 : decode cX7_removeStation 49 = .ok (.aload_n 0, 1) := by decide +kernel
theorem dX7_removeStation_50 : decode cX7_removeStation 50 = .ok (.getfield 9, 3) := by decide +kernel
theorem dX7_removeStation_53 : decode cX7_removeStation 53 = .ok (.iconst 0, 1) := by decide +kernel
theorem dX7_removeStation_54 : decode cX7_removeStation 54 = .ok (.iaload, 1) := by decide +kernel
theorem dX7_removeStation_55 : decode cX7_removeStation 55 = .ok (.if_icmp .ge 53, 3) := by decide +kernel
theorem dX7_removeStation_58 : decode cX7_removeStation 58 = .ok (.aload_n 0, 1) := by decide +kernel
theorem dX7_removeStation_59 : decode cX7_removeStation 59 = .ok (.getfield 9, 3) := by decide +kernel
theorem dX7_removeStation_62 : decode cX7_removeStation 62 = .ok (.bipush 64, 2) := by decide +kernel
theorem dX7_removeStation_64 : decode cX7_removeStation 64 = .ok (.iload_n 1, 1) := by decide +kernel
theorem dX7_removeStation_65 : decode cX7_removeStation 65 = .ok (.iadd, 1) := by decide +kernel
theorem dX7_removeStation_66 : decode cX7_removeStation 66 = .ok (.dup2, 1) := by decide +kernel
theorem dX7_removeStation_67 : decode cX7_removeStation 67 = .ok (.iaload, 1) := by decide +kernel
theorem dX7_removeStation_68 : decode cX7_removeStation 68 = .ok (.iconst 1, 1) := by decide +kernel
theorem dX7_removeStation_69 : decode cX7_removeStation 69 = .ok (.aload_n 0, 1) := by decide +kernel
theorem dX7_removeStation_70 : decode cX7_removeStation 70 = .ok (.getfield 9, 3) := by decide +kernel
theorem dX7_removeStation_73 : decode cX7_removeStation 73 = .ok (.iconst 0, 1) := by decide +kernel
theorem dX7_removeStation_74 : decode cX7_removeStation 74 = .ok (.iaload, 1) := by decide +kernel
theorem dX7_removeStation_75 : decode cX7_removeStation 75 = .ok (.ishl, 1) := by decide +kernel
theorem dX7_removeStation_76 : decode cX7_removeStation 76 = .ok (.iconst (-1), 1) := by decide +kernel
theorem dX7_removeStation_77 : decode cX7_removeStation 77 = .ok (.ixor, 1) := by decide +kernel
theorem dX7_removeStation_78 : decode cX7_removeStation 78 = .ok (.iand, 1) := by decide +kernel
theorem dX7_removeStation_79 : decode cX7_removeStation 79 = .ok (.iastore, 1) := by decide +kernel
theorem dX7_removeStation_80 : decode cX7_removeStation 80 = .ok (.aload_n 0, 1) := by decide +kernel
theorem dX7_removeStation_81 : decode cX7_removeStation 81 = .ok (.getfield 9, 3) := by decide +kernel
theorem dX7_removeStation_84 : decode cX7_removeStation 84 = .ok (.bipush 76, 2) := by decide +kernel
theorem dX7_removeStation_86 : decode cX7_removeStation 86 = .ok (.iload_n 1, 1) := by decide +kernel
theorem dX7_removeStation_87 : decode cX7_removeStation 87 = .ok (.iadd, 1) := by decide +kernel
theorem dX7_removeStation_88 : decode cX7_removeStation 88 = .ok (.dup2, 1) := by decide +kernel
theorem dX7_removeStation_89 : decode cX7_removeStation 89 = .ok (.iaload, 1) := by decide +kernel
theorem dX7_removeStation_90 : decode cX7_removeStation 90 = .ok (.iconst 1, 1) := by decide +kernel
theorem dX7_removeStation_91 : decode cX7_removeStation 91 = .ok (.aload_n 0, 1) := by decide +kernel
theorem dX7_removeStation_92 : decode cX7_removeStation 92 = .ok (.getfield 9, 3) := by decide +kernel
theorem dX7_removeStation_95 : decode cX7_removeStation 95 = .ok (.iconst 0, 1) := by decide +kernel
theorem dX7_removeStation_96 : decode cX7_removeStation 96 = .ok (.iaload, 1) := by decide +kernel
theorem dX7_removeStation_97 : decode cX7_removeStation 97 = .ok (.ishl, 1) := by decide +kernel
theorem dX7_removeStation_98 : decode cX7_removeStation 98 = .ok (.iconst (-1), 1) := by decide +kernel
theorem dX7_removeStation_99 : decode cX7_removeStation 99 = .ok (.ixor, 1) := by decide +kernel
theorem dX7_removeStation_100 : decode cX7_removeStation 100 = .ok (.iand, 1) := by decide +kernel
theorem dX7_removeStation_101 : decode cX7_removeStation 101 = .ok (.iastore, 1) := by decide +kernel
theorem dX7_removeStation_102 : decode cX7_removeStation 102 = .ok (.iinc 1 1, 3) := by decide +kernel
theorem dX7_removeStation_105 : decode cX7_removeStation 105 = .ok (.goto (-57), 3) := by decide +kernel
theorem dX7_removeStation_108 : decode cX7_removeStation 108 = .ok (.aload_n 0, 1) := by decide +kernel
theorem dX7_removeStation_109 : decode cX7_removeStation 109 = .ok (.getfield 9, 3) := by decide +kernel
theorem dX7_removeStation_112 : decode cX7_removeStation 112 = .ok (.iconst 0, 1) := by decide +kernel
theorem dX7_removeStation_113 : decode cX7_removeStation 113 = .ok (.iaload, 1) := by decide +kernel
theorem dX7_removeStation_114 : decode cX7_removeStation 114 = .ok (.ireturn, 1) := by decide +kernel
theorem dX7_setParticipates_0 : decode cX7_setParticipates 0 = .ok (.aload_n 0, 1) := by decide +kernel
theorem dX7_setParticipates_1 : decode cX7_setParticipates 1 = .ok (.iconst 1, 1) := by decide +kernel
theorem dX7_setParticipates_2 : decode cX7_setParticipates 2 = .ok (.aload_n 0, 1) := by decide +kernel
theorem dX7_setParticipates_3 : decode cX7_setParticipates 3 = .ok (.iload_n 1, 1) := by decide +kernel
theorem dX7_setParticipates_4 : decode cX7_setParticipates 4 = .ok (.invokevirtual 62, 3) := by decide +kernel
theorem dX7_setParticipates_7 : decode cX7_setParticipates 7 = .ok (.ifCond .ne 7, 3) := by decide +kernel
theorem dX7_setParticipates_10 : decode cX7_setParticipates 10 = .ok (.iconst 1, 1) := by decide +kernel
theorem dX7_setParticipates_11 : decode cX7_setParticipates 11 = .ok (.goto 4, 3) := by decide +kernel
theorem dX7_setParticipates_14 : decode cX7_setParticipates 14 = .ok (.iconst 0, 1) := by decide +kernel
theorem dX7_setParticipates_15 : decode cX7_setParticipates 15 = .ok (.invokevirtual 54, 3) := by decide +kernel
theorem dX7_setParticipates_18 : decode cX7_setParticipates 18 = .ok (.ifCond .ne 15, 3) := by decide +kernel
theorem dX7_setParticipates_21 : decode cX7_setParticipates 21 = .ok (.aload_n 0, 1) := by decide +kernel
theorem dX7_setParticipates_22 : decode cX7_setParticipates 22 = .ok (.iconst 2, 1) := by decide +kernel
theorem dX7_setParticipates_23 : decode cX7_setParticipates 23 = .ok (.aload_n 0, 1) := by decide +kernel
theorem dX7_setParticipates_24 : decode cX7_setParticipates 24 = .ok (.invokevirtual 58, 3) := by decide +kernel
theorem dX7_setParticipates_27 : decode cX7_setParticipates 27 = .ok (.invokevirtual 54, 3) := by decide +kernel
theorem dX7_setParticipates_30 : decode cX7_setParticipates 30 = .ok (.ifCond .eq 5, 3) := by decide +kernel
theorem dX7_setParticipates_33 : decode cX7_setParticipates 33 = .ok (.iconst 0, 1) := by decide +kernel
theorem dX7_setParticipates_34 : decode cX7_setParticipates 34 = .ok (.ireturn, 1) := by decide +kernel
theorem dX7_setParticipates_35 : decode cX7_setParticipates 35 = .ok (.aload_n 0, 1) := by decide +kernel
theorem dX7_setParticipates_36 : decode cX7_setParticipates 36 = .ok (.getfield 9, 3) := by decide +kernel
theorem dX7_setParticipates_39 : decode cX7_setParticipates 39 = .ok (.bipush 40, 2) := by decide +kernel
theorem dX7_setParticipates_41 : decode cX7_setParticipates 41 = .ok (.iload_n 1, 1) := by decide +kernel
theorem dX7_setParticipates_42 : decode cX7_setParticipates 42 = .ok (.iadd, 1) := by decide +kernel
theorem dX7_setParticipates_43 : decode cX7_setParticipates 43 = .ok (.iaload, 1) := by decide +kernel
theorem dX7_setParticipates_44 : decode cX7_setParticipates 44 = .ok (.iconst 1, 1) := by decide +kernel
theorem dX7_setParticipates_45 : decode cX7_setParticipates 45 = .ok (.if_icmp .ne 7, 3) := by decide +kernel
theorem dX7_setParticipates_48 : decode cX7_setParticipates 48 = .ok (.iconst 1, 1) := by decide +kernel
theorem dX7_setParticipates_49 : decode cX7_setParticipates 49 = .ok (.goto 4, 3) := by decide +kernel
theorem dX7_setParticipates_52 : decode cX7_setParticipates 52 = .ok (.iconst 0, 1) := by decide +kernel
theorem dX7_setParticipates_53 : decode cX7_setParticipates 53 = .ok (.istore_n 3, 1) := by decide +kernel
theorem dX7_setParticipates_54 : decode cX7_setParticipates 54 = .ok (.aload_n 0, 1) := by decide +kernel
theorem dX7_setParticipates_55 : decode cX7_setParticipates 55 = .ok (.getfield 9, 3) := by decide +kernel
theorem dX7_setParticipates_58 : decode cX7_setParticipates 58 = .ok (.bipush 40, 2) := by decide +kernel
theorem dX7_setParticipates_60 : decode cX7_setParticipates 60 = .ok (.iload_n 1, 1) := by decide +kernel
theorem dX7_setParticipates_61 : decode cX7_setParticipates 61 = .ok (.iadd, 1) := by decide +kernel
theorem dX7_setParticipates_62 : decode cX7_setParticipates 62 = .ok (.iload_n 2, 1) := by decide +kernel
theorem dX7_setParticipates_63 : decode cX7_setParticipates 63 = .ok (.ifCond .eq 7, 3) := by decide +kernel
theorem dX7_setParticipates_66 : decode cX7_setParticipates 66 = .ok (.iconst 1, 1) := by decide +kernel
theorem dX7_setParticipates_67 : decode cX7_setParticipates 67 = .ok (.goto 4, 3) := by decide +kernel
theorem dX7_setParticipates_70 : decode cX7_setParticipates 70 = .ok (.iconst 0, 1) := by decide +kernel
theorem dX7_setParticipates_71 : decode cX7_setParticipates 71 = .ok (.iastore, 1) := by decide +kernel
theorem dX7_setParticipates_72 : decode cX7_setParticipates 72 = .ok (.iload_n 3, 1) := by decide +kernel
theorem dX7_setParticipates_73 : decode cX7_setParticipates 73 = .ok (.ireturn, 1) := by decide +kernel
theorem dX7_setValue_0 : decode cX7_setValue 0 = .ok (.aload_n 0, 1) := by decide +kernel
theorem dX7_setValue_1 : decode cX7_setValue 1 = .ok (.iconst 1, 1) := by decide +kernel
theorem dX7_setValue_2 : decode cX7_setValue 2 = .ok (.aload_n 0, 1) := by decide +kernel
theorem dX7_setValue_3 : decode cX7_setValue 3 = .ok (.iload_n 1, 1) := by decide +kernel
theorem dX7_setValue_4 : decode cX7_setValue 4 = .ok (.invokevirtual 62, 3) := by decide +kernel
theorem dX7_setValue_7 : decode cX7_setValue 7 = .ok (.ifCond .ne 7, 3) := by decide +kernel
theorem dX7_setValue_10 : decode cX7_setValue 10 = .ok (.iconst 1, 1) := by decide +kernel
theorem dX7_setValue_11 : decode cX7_setValue 11 = .ok (.goto 4, 3) := by decide +kernel
theorem dX7_setValue_14 : decode cX7_setValue 14 = .ok (.iconst 0, 1) := by decide +kernel
theorem dX7_setValue_15 : decode cX7_setValue 15 = .ok (.invokevirtual 54, 3) := by decide +kernel
theorem dX7_setValue_18 : decode cX7_setValue 18 = .ok (.ifCond .ne 39, 3) := by decide +kernel
theorem dX7_setValue_21 : decode cX7_setValue 21 = .ok (.aload_n 0, 1) := by decide +kernel
theorem dX7_setValue_22 : decode cX7_setValue 22 = .ok (.iconst 2, 1) := by decide +kernel
theorem dX7_setValue_23 : decode cX7_setValue 23 = .ok (.iload_n 2, 1) := by decide +kernel
theorem dX7_setValue_24 : decode cX7_setValue 24 = .ok (.iconst 0, 1) := by decide +kernel
theorem dX7_setValue_25 : decode cX7_setValue 25 = .ok (.sipush 9999, 3) := by decide +kernel
theorem dX7_setValue_28 : decode cX7_setValue 28 = .ok (.invokestatic 46, 3) := by decide +kernel
theorem dX7_setValue_31 : decode cX7_setValue 31 = .ok (.ifCond .ne 7, 3) := by decide +kernel
theorem dX7_setValue_34 : decode cX7_setValue 34 = .ok (.iconst 1, 1) := by decide +kernel
theorem dX7_setValue_35 : decode cX7_setValue 35 = .ok (.goto 4, 3) := by decide +kernel
theorem dX7_setValue_38 : decode cX7_setValue 38 = .ok (.iconst 0, 1) := by decide +kernel
theorem dX7_setValue_39 : decode cX7_setValue 39 = .ok (.invokevirtual 54, 3) := by decide +kernel
theorem dX7_setValue_42 : decode cX7_setValue 42 = .ok (.ifCond .ne 15, 3) := by decide +kernel
theorem dX7_setValue_45 : decode cX7_setValue 45 = .ok (.aload_n 0, 1) := by decide +kernel
theorem dX7_setValue_46 : decode cX7_setValue 46 = .ok (.iconst 3, 1) := by decide +kernel
theorem dX7_setValue_47 : decode cX7_setValue 47 = .ok (.aload_n 0, 1) := by decide +kernel
theorem dX7_setValue_48 : decode cX7_setValue 48 = .ok (.invokevirtual 58, 3) := by decide +kernel
theorem dX7_setValue_51 : decode cX7_setValue 51 = .ok (.invokevirtual 54, 3) := by decide +kernel
theorem dX7_setValue_54 : decode cX7_setValue 54 = .ok (.ifCond .eq 5, 3) := by decide +kernel
theorem dX7_setValue_57 : decode cX7_setValue 57 = .ok (.iconst 0, 1) := by decide +kernel
theorem dX7_setValue_58 : decode cX7_setValue 58 = .ok (.ireturn, 1) := by decide +kernel
theorem dX7_setValue_59 : decode cX7_setValue 59 = .ok (.aload_n 0, 1) := by decide +kernel
theorem dX7_setValue_60 : decode cX7_setValue 60 = .ok (.getfield 9, 3) := by decide +kernel
theorem dX7_setValue_63 : decode cX7_setValue 63 = .ok (.bipush 16, 2) := by decide +kernel
theorem dX7_setValue_65 : decode cX7_setValue 65 = .ok (.iload_n 1, 1) := by decide +kernel
theorem dX7_setValue_66 : decode cX7_setValue 66 = .ok (.iadd, 1) := by decide +kernel
theorem dX7_setValue_67 : decode cX7_setValue 67 = .ok (.iaload, 1) := by decide +kernel
theorem dX7_setValue_68 : decode cX7_setValue 68 = .ok (.istore_n 3, 1) := by decide +kernel
theorem dX7_setValue_69 : decode cX7_setValue 69 = .ok (.aload_n 0, 1) := by decide +kernel
theorem dX7_setValue_70 : decode cX7_setValue 70 = .ok (.getfield 9, 3) := by decide +kernel
theorem dX7_setValue_73 : decode cX7_setValue 73 = .ok (.bipush 16, 2) := by decide +kernel
theorem dX7_setValue_75 : decode cX7_setValue 75 = .ok (.iload_n 1, 1) := by decide +kernel
theorem dX7_setValue_76 : decode cX7_setValue 76 = .ok (.iadd, 1) := by decide +kernel
theorem dX7_setValue_77 : decode cX7_setValue 77 = .ok (.iload_n 2, 1) := by decide +kernel
theorem dX7_setValue_78 : decode cX7_setValue 78 = .ok (.iastore, 1) := by decide +kernel
theorem dX7_setValue_79 : decode cX7_setValue 79 = .ok (.iload_n 3, 1) := by decide +kernel
theorem dX7_setValue_80 : decode cX7_setValue 80 = .ok (.ireturn, 1) := by decide +kernel
theorem dX7_setAvailable_0 : decode cX7_setAvailable 0 = .ok (.aload_n 0, 1) := by decide +kernel
theorem dX7_setAvailable_1 : decode cX7_setAvailable 1 = .ok (.iconst 1, 1) := by decide +kernel
theorem dX7_setAvailable_2 : decode cX7_setAvailable 2 = .ok (.iload_n 1, 1) := by decide +kernel
theorem dX7_setAvailable_3 : decode cX7_setAvailable 3 = .ok (.invokestatic 50, 3) := by decide +kernel
theorem dX7_setAvailable_6 : decode cX7_setAvailable 6 = .ok (.ifCond .ne 7, 3) := by decide +kernel
theorem dX7_setAvailable_9 : decode cX7_setAvailable 9 = .ok (.iconst 1, 1) := by decide +kernel
theorem dX7_setAvailable_10 : decode cX7_setAvailable 10 = .ok (.goto 4, 3) := by decide +kernel
theorem dX7_setAvailable_13 : decode cX7_setAvailable 13 = .ok (.iconst 0, 1) := by decide +kernel
theorem dX7_setAvailable_14 : decode cX7_setAvailable 14 = .ok (.invokevirtual 54, 3) := by decide +kernel
theorem dX7_setAvailable_17 : decode cX7_setAvailable 17 = .ok (.ifCond .ne 15, 3) := by decide +kernel
theorem dX7_setAvailable_20 : decode cX7_setAvailable 20 = .ok (.aload_n 0, 1) := by decide +kernel
theorem dX7_setAvailable_21 : decode cX7_setAvailable 21 = .ok (.iconst 2, 1) := by decide +kernel
theorem dX7_setAvailable_22 : decode cX7_setAvailable 22 = .ok (.aload_n 0, 1) := by decide +kernel
theorem dX7_setAvailable_23 : decode cX7_setAvailable 23 = .ok (.invokevirtual 58, 3) := by decide +kernel
theorem dX7_setAvailable_26 : decode cX7_setAvailable 26 = .ok (.invokevirtual 54, 3) := by decide +kernel
theorem dX7_setAvailable_29 : decode cX7_setAvailable 29 = .ok (.ifCond .eq 5, 3) := by decide +kernel
theorem dX7_setAvailable_32 : decode cX7_setAvailable 32 = .ok (.iconst 0, 1) := by decide +kernel
theorem dX7_setAvailable_33 : decode cX7_setAvailable 33 = .ok (.ireturn, 1) := by decide +kernel
theorem dX7_setAvailable_34 : decode cX7_setAvailable 34 = .ok (.aload_n 0, 1) := by decide +kernel
theorem dX7_setAvailable_35 : decode cX7_setAvailable 35 = .ok (.getfield 9, 3) := by decide +kernel
theorem dX7_setAvailable_38 : decode cX7_setAvailable 38 = .ok (.iconst 1, 1) := by decide +kernel
theorem dX7_setAvailable_39 : decode cX7_setAvailable 39 = .ok (.iaload, 1) := by decide +kernel
theorem dX7_setAvailable_40 : decode cX7_setAvailable 40 = .ok (.istore_n 2, 1) := by decide +kernel
theorem dX7_setAvailable_41 : decode cX7_setAvailable 41 = .ok (.aload_n 0, 1) := by decide +kernel
theorem dX7_setAvailable_42 : decode cX7_setAvailable 42 = .ok (.getfield 9, 3) := by decide +kernel
theorem dX7_setAvailable_45 : decode cX7_setAvailable 45 = .ok (.iconst 1, 1) := by decide +kernel
theorem dX7_setAvailable_46 : decode cX7_setAvailable 46 = .ok (.iload_n 1, 1) := by decide +kernel
theorem dX7_setAvailable_47 : decode cX7_setAvailable 47 = .ok (.iastore, 1) := by decide +kernel
theorem dX7_setAvailable_48 : decode cX7_setAvailable 48 = .ok (.iload_n 2, 1) := by decide +kernel
theorem dX7_setAvailable_49 : decode cX7_setAvailable 49 = .ok (.ireturn, 1) := by decide +kernel
theorem dX7_append_0 : decode cX7_append 0 = .ok (.iconst 0, 1) := by decide +kernel
theorem dX7_append_1 : decode cX7_append 1 = .ok (.istore_n 2, 1) := by decide +kernel
theorem dX7_append_2 : decode cX7_append 2 = .ok (.iconst 0, 1) := by decide +kernel
theorem dX7_append_3 : decode cX7_append 3 = .ok (.istore_n 3, 1) := by decide +kernel
theorem dX7_append_4 : decode cX7_append 4 = .ok (.bipush 24, 2) := by decide +kernel
theorem dX7_append_6 : decode cX7_append 6 = .ok (.istore 4, 2) := by decide +kernel
theorem dX7_append_8 : decode cX7_append 8 = .ok (.iload 4, 2) := by decide +kernel
theorem dX7_append_10 : decode cX7_append 10 = .ok (.ifCond .lt 57, 3) := by decide +kernel
theorem dX7_append_13 : decode cX7_append 13 = .ok (.iload_n 1, 1) := by decide +kernel
theorem dX7_append_14 : decode cX7_append 14 = .ok (.iload 4, 2) := by decide +kernel
theorem dX7_append_16 : decode cX7_append 16 = .ok (.ishr, 1) := by decide +kernel
theorem dX7_append_17 : decode cX7_append 17 = .ok (.sipush 255, 3) := by decide +kernel
theorem dX7_append_20 : decode cX7_append 20 = .ok (.iand, 1) := by decide +kernel
theorem dX7_append_21 : decode cX7_append 21 = .ok (.istore 5, 2) := by decide +kernel
theorem dX7_append_23 : decode cX7_append 23 = .ok (.iload_n 3, 1) := by decide +kernel
theorem dX7_append_24 : decode cX7_append 24 = .ok (.iload 5, 2) := by decide +kernel
theorem dX7_append_26 : decode cX7_append 26 = .ok (.ifCond .eq 19, 3) := by decide +kernel
theorem dX7_append_29 : decode cX7_append 29 = .ok (.iload 5, 2) := by decide +kernel
theorem dX7_append_31 : decode cX7_append 31 = .ok (.bipush 33, 2) := by decide +kernel
theorem dX7_append_33 : decode cX7_append 33 = .ok (.bipush 126, 2) := by decide +kernel
theorem dX7_append_35 : decode cX7_append 35 = .ok (.invokestatic 46, 3) := by decide +kernel
theorem dX7_append_38 : decode cX7_append 38 = .ok (.ifCond .ne 7, 3) := by decide +kernel
theorem dX7_append_41 : decode cX7_append 41 = .ok (.iconst 1, 1) := by decide +kernel
theorem dX7_append_42 : decode cX7_append 42 = .ok (.goto 4, 3) := by decide +kernel
theorem dX7_append_45 : decode cX7_append 45 = .ok (.iconst 0, 1) := by decide +kernel
theorem dX7_append_46 : decode cX7_append 46 = .ok (.ior, 1) := by decide +kernel
theorem dX7_append_47 : decode cX7_append 47 = .ok (.istore_n 3, 1) := by decide +kernel
theorem dX7_append_48 : decode cX7_append 48 = .ok (.iload_n 2, 1) := by decide +kernel
theorem dX7_append_49 : decode cX7_append 49 = .ok (.iload 5, 2) := by decide +kernel
theorem dX7_append_51 : decode cX7_append 51 = .ok (.ifCond .eq 7, 3) := by decide +kernel
theorem dX7_append_54 : decode cX7_append 54 = .ok (.iconst 1, 1) := by decide +kernel
theorem dX7_append_55 : decode cX7_append 55 = .ok (.goto 4, 3) := by decide +kernel
theorem dX7_append_58 : decode cX7_append 58 = .ok (.iconst 0, 1) := by decide +kernel
theorem dX7_append_59 : decode cX7_append 59 = .ok (.iadd, 1) := by decide +kernel
theorem dX7_append_60 : decode cX7_append 60 = .ok (.istore_n 2, 1) := by decide +kernel
theorem dX7_append_61 : decode cX7_append 61 = .ok (.iinc 4 (-8), 3) := by decide +kernel
theorem dX7_append_64 : decode cX7_append 64 = .ok (.goto (-56), 3) := by decide +kernel
theorem dX7_append_67 : decode cX7_append 67 = .ok (.aload_n 0, 1) := by decide +kernel
theorem dX7_append_68 : decode cX7_append 68 = .ok (.iconst 1, 1) := by decide +kernel
theorem dX7_append_69 : decode cX7_append 69 = .ok (.iload_n 3, 1) := by decide +kernel
theorem dX7_append_70 : decode cX7_append 70 = .ok (.invokevirtual 54, 3) := by decide +kernel
theorem dX7_append_73 : decode cX7_append 73 = .ok (.ifCond .ne 27, 3) := by decide +kernel
theorem dX7_append_76 : decode cX7_append 76 = .ok (.aload_n 0, 1) := by decide +kernel
theorem dX7_append_77 : decode cX7_append 77 = .ok (.iconst 2, 1) := by decide +kernel
theorem dX7_append_78 : decode cX7_append 78 = .ok (.aload_n 0, 1) := by decide +kernel
theorem dX7_append_79 : decode cX7_append 79 = .ok (.getfield 65, 3) := by decide +kernel
theorem dX7_append_82 : decode cX7_append 82 = .ok (.iload_n 2, 1) := by decide +kernel
theorem dX7_append_83 : decode cX7_append 83 = .ok (.iadd, 1) := by decide +kernel
theorem dX7_append_84 : decode cX7_append 84 = .ok (.bipush 40, 2) := by decide +kernel
theorem dX7_append_86 : decode cX7_append 86 = .ok (.if_icmp .le 7, 3) := by decide +kernel
theorem dX7_append_89 : decode cX7_append 89 = .ok (.iconst 1, 1) := by decide +kernel
theorem dX7_append_90 : decode cX7_append 90 = .ok (.goto 4, 3) := by decide +kernel
theorem dX7_append_93 : decode cX7_append 93 = .ok (.iconst 0, 1) := by decide +kernel
theorem dX7_append_94 : decode cX7_append 94 = .ok (.invokevirtual 54, 3) := by decide +kernel
theorem dX7_append_97 : decode cX7_append 97 = .ok (.ifCond .eq 5, 3) := by decide +kernel
theorem dX7_append_100 : decode cX7_append 100 = .ok (.iconst 0, 1) := by decide +kernel
theorem dX7_append_101 : decode cX7_append 101 = .ok (.ireturn, 1) := by decide +kernel
theorem dX7_append_102 : decode cX7_append 102 = .ok (.bipush 24, 2) := by decide +kernel
theorem dX7_append_104 : decode cX7_append 104 = .ok (.istore 4, 2) := by decide +kernel
theorem dX7_append_106 : decode cX7_append 106 = .ok (.iload 4, 2) := by decide +kernel
theorem dX7_append_108 : decode cX7_append 108 = .ok (.ifCond .lt 45, 3) := by decide +kernel
theorem dX7_append_111 : decode cX7_append 111 = .ok (.iload_n 1, 1) := by decide +kernel
theorem dX7_append_112 : decode cX7_append 112 = .ok (.iload 4, 2) := by decide +kernel
theorem dX7_append_114 : decode cX7_append 114 = .ok (.ishr, 1) := by decide +kernel
theorem dX7_append_115 : decode cX7_append 115 = .ok (.sipush 255, 3) := by decide +kernel
theorem dX7_append_118 : decode cX7_append 118 = .ok (.iand, 1) := by decide +kernel
theorem dX7_append_119 : decode cX7_append 119 = .ok (.istore 5, 2) := by decide +kernel
theorem dX7_append_121 : decode cX7_append 121 = .ok (.iload 5, 2) := by decide +kernel
theorem dX7_append_123 : decode cX7_append 123 = .ok (.ifCond .eq 24, 3) := by decide +kernel
theorem dX7_append_126 : decode cX7_append 126 = .ok (.aload_n 0, 1) := by decide +kernel
theorem dX7_append_127 : decode cX7_append 127 = .ok (.getfield 16, 3) := by decide +kernel
theorem dX7_append_130 : decode cX7_append 130 = .ok (.aload_n 0, 1) := by decide +kernel
theorem dX7_append_131 : decode cX7_append 131 = .ok (.getfield 65, 3) := by decide +kernel
theorem dX7_append_134 : decode cX7_append 134 = .ok (.iload 5, 2) := by decide +kernel
theorem dX7_append_136 : decode cX7_append 136 = .ok (.iastore, 1) := by decide +kernel
theorem dX7_append_137 : decode cX7_append 137 = .ok (.aload_n 0, 1) := by decide +kernel
theorem dX7_append_138 : decode cX7_append 138 = .ok (.dup, 1) := by decide +kernel
theorem dX7_append_139 : decode cX7_append 139 = .ok (.getfield 65, 3) := by decide +kernel
theorem dX7_append_142 : decode cX7_append 142 = .ok (.iconst 1, 1) := by decide +kernel
theorem dX7_append_143 : decode cX7_append 143 = .ok (.iadd, 1) := by decide +kernel
theorem dX7_append_144 : decode cX7_append 144 = .ok (.putfield 65, 3) := by decide +kernel
theorem dX7_append_147 : decode cX7_append 147 = .ok (.iinc 4 (-8), 3) := by decide +kernel
theorem dX7_append_150 : decode cX7_append 150 = .ok (.goto (-44), 3) := by decide +kernel
theorem dX7_append_153 : decode cX7_append 153 = .ok (.aload_n 0, 1) := by decide +kernel
theorem dX7_append_154 : decode cX7_append 154 = .ok (.getfield 65, 3) := by decide +kernel
theorem dX7_append_157 : decode cX7_append 157 = .ok (.ireturn, 1) := by decide +kernel
theorem dX7_sees_0 : decode cX7_sees 0 = .ok (.aload_n 0, 1) := by decide +kernel
theorem dX7_sees_1 : decode cX7_sees 1 = .ok (.getfield 68, 3) := by decide +kernel
theorem dX7_sees_4 : decode cX7_sees 4 = .ok (.ifCond .ne 35, 3) := by decide +kernel
theorem dX7_sees_7 : decode cX7_sees 7 = .ok (.aload_n 0, 1) := by decide +kernel
theorem dX7_sees_8 : decode cX7_sees 8 = .ok (.getfield 72, 3) := by decide +kernel
theorem dX7_sees_11 : decode cX7_sees 11 = .ok (.aload_n 0, 1) := by decide +kernel
theorem dX7_sees_12 : decode cX7_sees 12 = .ok (.getfield 65, 3) := by decide +kernel
theorem dX7_sees_15 : decode cX7_sees 15 = .ok (.if_icmp .ge 24, 3) := by decide +kernel
theorem dX7_sees_18 : decode cX7_sees 18 = .ok (.aload_n 0, 1) := by decide +kernel
theorem dX7_sees_19 : decode cX7_sees 19 = .ok (.getfield 16, 3) := by decide +kernel
theorem dX7_sees_22 : decode cX7_sees 22 = .ok (.aload_n 0, 1) := by decide +kernel
theorem dX7_sees_23 : decode cX7_sees 23 = .ok (.getfield 72, 3) := by decide +kernel
theorem dX7_sees_26 : decode cX7_sees 26 = .ok (.iaload, 1) := by decide +kernel
theorem dX7_sees_27 : decode cX7_sees 27 = .ok (.iload_n 1, 1) := by decide +kernel
theorem dX7_sees_28 : decode cX7_sees 28 = .ok (.iload_n 2, 1) := by decide +kernel
theorem dX7_sees_29 : decode cX7_sees 29 = .ok (.invokestatic 46, 3) := by decide +kernel
theorem dX7_sees_32 : decode cX7_sees 32 = .ok (.ifCond .eq 7, 3) := by decide +kernel
theorem dX7_sees_35 : decode cX7_sees 35 = .ok (.iconst 1, 1) := by decide +kernel
theorem dX7_sees_36 : decode cX7_sees 36 = .ok (.goto 4, 3) := by decide +kernel
theorem dX7_sees_39 : decode cX7_sees 39 = .ok (.iconst 0, 1) := by decide +kernel
theorem dX7_sees_40 : decode cX7_sees 40 = .ok (.ireturn, 1) := by decide +kernel
theorem dX7_passes_0 : decode cX7_passes 0 = .ok (.aload_n 0, 1) := by decide +kernel
theorem dX7_passes_1 : decode cX7_passes 1 = .ok (.iload_n 1, 1) := by decide +kernel
theorem dX7_passes_2 : decode cX7_passes 2 = .ok (.iload_n 1, 1) := by decide +kernel
theorem dX7_passes_3 : decode cX7_passes 3 = .ok (.invokevirtual 75, 3) := by decide +kernel
theorem dX7_passes_6 : decode cX7_passes 6 = .ok (.istore_n 2, 1) := by decide +kernel
theorem dX7_passes_7 : decode cX7_passes 7 = .ok (.aload_n 0, 1) := by decide +kernel
theorem dX7_passes_8 : decode cX7_passes 8 = .ok (.dup, 1) := by decide +kernel
theorem dX7_passes_9 : decode cX7_passes 9 = .ok (.getfield 72, 3) := by decide +kernel
theorem dX7_passes_12 : decode cX7_passes 12 = .ok (.iload_n 2, 1) := by decide +kernel
theorem dX7_passes_13 : decode cX7_passes 13 = .ok (.ifCond .eq 7, 3) := by decide +kernel
theorem dX7_passes_16 : decode cX7_passes 16 = .ok (.iconst 1, 1) := by decide +kernel
theorem dX7_passes_17 : decode cX7_passes 17 = .ok (.goto 4, 3) := by decide +kernel
theorem dX7_passes_20 : decode cX7_passes 20 = .ok (.iconst 0, 1) := by decide +kernel
theorem dX7_passes_21 : decode cX7_passes 21 = .ok (.iadd, 1) := by decide +kernel
theorem dX7_passes_22 : decode cX7_passes 22 = .ok (.putfield 72, 3) := by decide +kernel
theorem dX7_passes_25 : decode cX7_passes 25 = .ok (.iload_n 2, 1) := by decide +kernel
theorem dX7_passes_26 : decode cX7_passes 26 = .ok (.ireturn, 1) := by decide +kernel
theorem dX7_passStation_0 : decode cX7_passStation 0 = .ok (.aload_n 0, 1) := by decide +kernel
theorem dX7_passStation_1 : decode cX7_passStation 1 = .ok (.dup, 1) := by decide +kernel
theorem dX7_passStation_2 : decode cX7_passStation 2 = .ok (.getfield 68, 3) := by decide +kernel
theorem dX7_passStation_5 : decode cX7_passStation 5 = .ok (.aload_n 0, 1) := by decide +kernel
theorem dX7_passStation_6 : decode cX7_passStation 6 = .ok (.bipush 48, 2) := by decide +kernel
theorem dX7_passStation_8 : decode cX7_passStation 8 = .ok (.bipush 57, 2) := by decide +kernel
theorem dX7_passStation_10 : decode cX7_passStation 10 = .ok (.invokevirtual 75, 3) := by decide +kernel
theorem dX7_passStation_13 : decode cX7_passStation 13 = .ok (.ifCond .ne 7, 3) := by decide +kernel
theorem dX7_passStation_16 : decode cX7_passStation 16 = .ok (.iconst 1, 1) := by decide +kernel
theorem dX7_passStation_17 : decode cX7_passStation 17 = .ok (.goto 4, 3) := by decide +kernel
theorem dX7_passStation_20 : decode cX7_passStation 20 = .ok (.iconst 0, 1) := by decide +kernel
theorem dX7_passStation_21 : decode cX7_passStation 21 = .ok (.ior, 1) := by decide +kernel
theorem dX7_passStation_22 : decode cX7_passStation 22 = .ok (.putfield 68, 3) := by decide +kernel
theorem dX7_passStation_25 : decode cX7_passStation 25 = .ok (.aload_n 0, 1) := by decide +kernel
theorem dX7_passStation_26 : decode cX7_passStation 26 = .ok (.getfield 68, 3) := by decide +kernel
theorem dX7_passStation_29 : decode cX7_passStation 29 = .ok (.ifCond .eq 5, 3) := by decide +kernel
theorem dX7_passStation_32 : decode cX7_passStation 32 = .ok (.iconst 0, 1) := by decide +kernel
theorem dX7_passStation_33 : decode cX7_passStation 33 = .ok (.ireturn, 1) := by decide +kernel
theorem dX7_passStation_34 : decode cX7_passStation 34 = .ok (.aload_n 0, 1) := by decide +kernel
theorem dX7_passStation_35 : decode cX7_passStation 35 = .ok (.getfield 72, 3) := by decide +kernel
theorem dX7_passStation_38 : decode cX7_passStation 38 = .ok (.istore_n 2, 1) := by decide +kernel
theorem dX7_passStation_39 : decode cX7_passStation 39 = .ok (.aload_n 0, 1) := by decide +kernel
theorem dX7_passStation_40 : decode cX7_passStation 40 = .ok (.getfield 16, 3) := by decide +kernel
theorem dX7_passStation_43 : decode cX7_passStation 43 = .ok (.aload_n 0, 1) := by decide +kernel
theorem dX7_passStation_44 : decode cX7_passStation 44 = .ok (.getfield 72, 3) := by decide +kernel
theorem dX7_passStation_47 : decode cX7_passStation 47 = .ok (.iaload, 1) := by decide +kernel
theorem dX7_passStation_48 : decode cX7_passStation 48 = .ok (.bipush 48, 2) := by decide +kernel
theorem dX7_passStation_50 : decode cX7_passStation 50 = .ok (.isub, 1) := by decide +kernel
theorem dX7_passStation_51 : decode cX7_passStation 51 = .ok (.istore_n 3, 1) := by decide +kernel
theorem dX7_passStation_52 : decode cX7_passStation 52 = .ok (.aload_n 0, 1) := by decide +kernel
theorem dX7_passStation_53 : decode cX7_passStation 53 = .ok (.dup, 1) := by decide +kernel
theorem dX7_passStation_54 : decode cX7_passStation 54 = .ok (.getfield 72, 3) := by decide +kernel
theorem dX7_passStation_57 : decode cX7_passStation 57 = .ok (.iconst 1, 1) := by decide +kernel
theorem dX7_passStation_58 : decode cX7_passStation 58 = .ok (.iadd, 1) := by decide +kernel
theorem dX7_passStation_59 : decode cX7_passStation 59 = .ok (.putfield 72, 3) := by decide +kernel
theorem dX7_passStation_62 : decode cX7_passStation 62 = .ok (.iload_n 3, 1) := by decide +kernel
theorem dX7_passStation_63 : decode cX7_passStation 63 = .ok (.iconst 1, 1) := by decide +kernel
theorem dX7_passStation_64 : decode cX7_passStation 64 = .ok (.if_icmp .ne 40, 3) := by decide +kernel
theorem dX7_passStation_67 : decode cX7_passStation 67 = .ok (.aload_n 0, 1) := by decide +kernel
theorem dX7_passStation_68 : decode cX7_passStation 68 = .ok (.bipush 48, 2) := by decide +kernel
theorem dX7_passStation_70 : decode cX7_passStation 70 = .ok (.bipush 49, 2) := by decide +kernel
theorem dX7_passStation_72 : decode cX7_passStation 72 = .ok (.invokevirtual 75, 3) := by decide +kernel
theorem dX7_passStation_75 : decode cX7_passStation 75 = .ok (.ifCond .eq 29, 3) := by decide +kernel
theorem dX7_passStation_78 : decode cX7_passStation 78 = .ok (.bipush 10, 2) := by decide +kernel
theorem dX7_passStation_80 : decode cX7_passStation 80 = .ok (.aload_n 0, 1) := by decide +kernel
theorem dX7_passStation_81 : decode cX7_passStation 81 = .ok (.getfield 16, 3) := by decide +kernel
theorem dX7_passStation_84 : decode cX7_passStation 84 = .ok (.aload_n 0, 1) := by decide +kernel
theorem dX7_passStation_85 : decode cX7_passStation 85 = .ok (.getfield 72, 3) := by decide +kernel
theorem dX7_passStation_88 : decode cX7_passStation 88 = .ok (.iaload, 1) := by decide +kernel
theorem dX7_passStation_89 : decode cX7_passStation 89 = .ok (.iadd, 1) := by decide +kernel
theorem dX7_passStation_90 : decode cX7_passStation 90 = .ok (.bipush 48, 2) := by decide +kernel
theorem dX7_passStation_92 : decode cX7_passStation 92 = .ok (.isub, 1) := by decide +kernel
theorem dX7_passStation_93 : decode cX7_passStation 93 = .ok (.istore_n 3, 1) := by decide +kernel
theorem dX7_passStation_94 : decode cX7_passStation 94 = .ok (.aload_n 0, 1) := by decide +kernel
theorem dX7_passStation_95 : decode cX7_passStation 95 = .ok (.dup, 1) := by decide +kernel
theorem dX7_passStation_96 : decode cX7_passStation 96 = .ok (.getfield 72, 3) := by decide +kernel
theorem dX7_passStation_99 : decode cX7_passStation 99 = .ok (.iconst 1, 1) := by decide +kernel
theorem dX7_passStation_100 : decode cX7_passStation 100 = .ok (.iadd, 1) := by decide +kernel
theorem dX7_passStation_101 : decode cX7_passStation 101 = .ok (.putfield 72, 3) := by decide +kernel
theorem dX7_passStation_104 : decode cX7_passStation 104 = .ok (.aload_n 0, 1) := by decide +kernel
theorem dX7_passStation_105 : decode cX7_passStation 105 = .ok (.iload_n 3, 1) := by decide +kernel
theorem dX7_passStation_106 : decode cX7_passStation 106 = .ok (.invokevirtual 62, 3) := by decide +kernel
theorem dX7_passStation_109 : decode cX7_passStation 109 = .ok (.ifCond .eq 8, 3) := by decide +kernel
theorem dX7_passStation_112 : decode cX7_passStation 112 = .ok (.iload_n 3, 1) := by decide +kernel
theorem dX7_passStation_113 : decode cX7_passStation 113 = .ok (.iload_n 1, 1) := by decide +kernel
theorem dX7_passStation_114 : decode cX7_passStation 114 = .ok (.if_icmp .ne 15, 3) := by decide +kernel
theorem dX7_passStation_117 : decode cX7_passStation 117 = .ok (.aload_n 0, 1) := by decide +kernel
theorem dX7_passStation_118 : decode cX7_passStation 118 = .ok (.iconst 1, 1) := by decide +kernel
theorem dX7_passStation_119 : decode cX7_passStation 119 = .ok (.putfield 68, 3) := by decide +kernel
theorem dX7_passStation_122 : decode cX7_passStation 122 = .ok (.aload_n 0, 1) := by decide +kernel
theorem dX7_passStation_123 : decode cX7_passStation 123 = .ok (.iload_n 2, 1) := by decide +kernel
theorem dX7_passStation_124 : decode cX7_passStation 124 = .ok (.putfield 72, 3) := by decide +kernel
theorem dX7_passStation_127 : decode cX7_passStation 127 = .ok (.iconst 0, 1) := by decide +kernel
theorem dX7_passStation_128 : decode cX7_passStation 128 = .ok (.ireturn, 1) := by decide +kernel
theorem dX7_passStation_129 : decode cX7_passStation 129 = .ok (.iload_n 3, 1) := by decide +kernel
theorem dX7_passStation_130 : decode cX7_passStation 130 = .ok (.ireturn, 1) := by decide +kernel
theorem dX7_set_0 : decode cX7_set 0 = .ok (.aload_n 1, 1) := by decide +kernel
theorem dX7_set_1 : decode cX7_set 1 = .ok (.iload_n 2, 1) := by decide +kernel
theorem dX7_set_2 : decode cX7_set 2 = .ok (.iload 4, 2) := by decide +kernel
theorem dX7_set_4 : decode cX7_set 4 = .ok (.ifCond .eq 13, 3) := by decide +kernel
theorem dX7_set_7 : decode cX7_set 7 = .ok (.aload_n 1, 1) := by decide +kernel
theorem dX7_set_8 : decode cX7_set 8 = .ok (.iload_n 2, 1) := by decide +kernel
theorem dX7_set_9 : decode cX7_set 9 = .ok (.iaload, 1) := by decide +kernel
theorem dX7_set_10 : decode cX7_set 10 = .ok (.iconst 1, 1) := by decide +kernel
theorem dX7_set_11 : decode cX7_set 11 = .ok (.iload_n 3, 1) := by decide +kernel
theorem dX7_set_12 : decode cX7_set 12 = .ok (.ishl, 1) := by decide +kernel
theorem dX7_set_13 : decode cX7_set 13 = .ok (.ior, 1) := by decide +kernel
theorem dX7_set_14 : decode cX7_set 14 = .ok (.goto 12, 3) := by decide +kernel
theorem dX7_set_17 : decode cX7_set 17 = .ok (.aload_n 1, 1) := by decide +kernel
theorem dX7_set_18 : decode cX7_set 18 = .ok (.iload_n 2, 1) := by decide +kernel
theorem dX7_set_19 : decode cX7_set 19 = .ok (.iaload, 1) := by decide +kernel
theorem dX7_set_20 : decode cX7_set 20 = .ok (.iconst 1, 1) := by decide +kernel
theorem dX7_set_21 : decode cX7_set 21 = .ok (.iload_n 3, 1) := by decide +kernel
theorem dX7_set_22 : decode cX7_set 22 = .ok (.ishl, 1) := by decide +kernel
theorem dX7_set_23 : decode cX7_set 23 = .ok (.iconst (-1), 1) := by decide +kernel
theorem dX7_set_24 : decode cX7_set 24 = .ok (.ixor, 1) := by decide +kernel
theorem dX7_set_25 : decode cX7_set 25 = .ok (.iand, 1) := by decide +kernel
theorem dX7_set_26 : decode cX7_set 26 = .ok (.iastore, 1) := by decide +kernel
theorem dX7_set_27 : decode cX7_set 27 = .ok (.aload_n 1, 1) := by decide +kernel
theorem dX7_set_28 : decode cX7_set 28 = .ok (.iload_n 3, 1) := by decide +kernel
theorem dX7_set_29 : decode cX7_set 29 = .ok (.iload 4, 2) := by decide +kernel
theorem dX7_set_31 : decode cX7_set 31 = .ok (.ifCond .eq 13, 3) := by decide +kernel
theorem dX7_set_34 : decode cX7_set 34 = .ok (.aload_n 1, 1) := by decide +kernel
theorem dX7_set_35 : decode cX7_set 35 = .ok (.iload_n 3, 1) := by decide +kernel
theorem dX7_set_36 : decode cX7_set 36 = .ok (.iaload, 1) := by decide +kernel
theorem dX7_set_37 : decode cX7_set 37 = .ok (.iconst 1, 1) := by decide +kernel
theorem dX7_set_38 : decode cX7_set 38 = .ok (.iload_n 2, 1) := by decide +kernel
theorem dX7_set_39 : decode cX7_set 39 = .ok (.ishl, 1) := by decide +kernel
theorem dX7_set_40 : decode cX7_set 40 = .ok (.ior, 1) := by decide +kernel
theorem dX7_set_41 : decode cX7_set 41 = .ok (.goto 12, 3) := by decide +kernel
theorem dX7_set_44 : decode cX7_set 44 = .ok (.aload_n 1, 1) := by decide +kernel
theorem dX7_set_45 : decode cX7_set 45 = .ok (.iload_n 3, 1) := by decide +kernel
theorem dX7_set_46 : decode cX7_set 46 = .ok (.iaload, 1) := by decide +kernel
theorem dX7_set_47 : decode cX7_set 47 = .ok (.iconst 1, 1) := by decide +kernel
theorem dX7_set_48 : decode cX7_set 48 = .ok (.iload_n 2, 1) := by decide +kernel
theorem dX7_set_49 : decode cX7_set 49 = .ok (.ishl, 1) := by decide +kernel
theorem dX7_set_50 : decode cX7_set 50 = .ok (.iconst (-1), 1) := by decide +kernel
theorem dX7_set_51 : decode cX7_set 51 = .ok (.ixor, 1) := by decide +kernel
theorem dX7_set_52 : decode cX7_set 52 = .ok (.iand, 1) := by decide +kernel
theorem dX7_set_53 : decode cX7_set 53 = .ok (.iastore, 1) := by decide +kernel
theorem dX7_set_54 : decode cX7_set 54 = .ok (.return_, 1) := by decide +kernel
theorem dX7_readPair_0 : decode cX7_readPair 0 = .ok (.aload_n 0, 1) := by decide +kernel
theorem dX7_readPair_1 : decode cX7_readPair 1 = .ok (.iconst (-1), 1) := by decide +kernel
theorem dX7_readPair_2 : decode cX7_readPair 2 = .ok (.invokevirtual 79, 3) := by decide +kernel
theorem dX7_readPair_5 : decode cX7_readPair 5 = .ok (.istore_n 1, 1) := by decide +kernel
theorem dX7_readPair_6 : decode cX7_readPair 6 = .ok (.aload_n 0, 1) := by decide +kernel
theorem dX7_readPair_7 : decode cX7_readPair 7 = .ok (.dup, 1) := by decide +kernel
theorem dX7_readPair_8 : decode cX7_readPair 8 = .ok (.getfield 68, 3) := by decide +kernel
theorem dX7_readPair_11 : decode cX7_readPair 11 = .ok (.aload_n 0, 1) := by decide +kernel
theorem dX7_readPair_12 : decode cX7_readPair 12 = .ok (.bipush 45, 2) := by decide +kernel
theorem dX7_readPair_14 : decode cX7_readPair 14 = .ok (.invokevirtual 83, 3) := by decide +kernel
theorem dX7_readPair_17 : decode cX7_readPair 17 = .ok (.ifCond .ne 7, 3) := by decide +kernel
theorem dX7_readPair_20 : decode cX7_readPair 20 = .ok (.iconst 1, 1) := by decide +kernel
theorem dX7_readPair_21 : decode cX7_readPair 21 = .ok (.goto 4, 3) := by decide +kernel
theorem dX7_readPair_24 : decode cX7_readPair 24 = .ok (.iconst 0, 1) := by decide +kernel
theorem dX7_readPair_25 : decode cX7_readPair 25 = .ok (.ior, 1) := by decide +kernel
theorem dX7_readPair_26 : decode cX7_readPair 26 = .ok (.putfield 68, 3) := by decide +kernel
theorem dX7_readPair_29 : decode cX7_readPair 29 = .ok (.aload_n 0, 1) := by decide +kernel
theorem dX7_readPair_30 : decode cX7_readPair 30 = .ok (.getfield 68, 3) := by decide +kernel
theorem dX7_readPair_33 : decode cX7_readPair 33 = .ok (.ifCond .eq 7, 3) := by decide +kernel
theorem dX7_readPair_36 : decode cX7_readPair 36 = .ok (.iconst 0, 1) := by decide +kernel
theorem dX7_readPair_37 : decode cX7_readPair 37 = .ok (.goto 8, 3) := by decide +kernel
theorem dX7_readPair_40 : decode cX7_readPair 40 = .ok (.aload_n 0, 1) := by decide +kernel
theorem dX7_readPair_41 : decode cX7_readPair 41 = .ok (.iload_n 1, 1) := by decide +kernel
theorem dX7_readPair_42 : decode cX7_readPair 42 = .ok (.invokevirtual 79, 3) := by decide +kernel
theorem dX7_readPair_45 : decode cX7_readPair 45 = .ok (.istore_n 2, 1) := by decide +kernel
theorem dX7_readPair_46 : decode cX7_readPair 46 = .ok (.aload_n 0, 1) := by decide +kernel
theorem dX7_readPair_47 : decode cX7_readPair 47 = .ok (.bipush 99, 2) := by decide +kernel
theorem dX7_readPair_49 : decode cX7_readPair 49 = .ok (.invokevirtual 83, 3) := by decide +kernel
theorem dX7_readPair_52 : decode cX7_readPair 52 = .ok (.istore_n 3, 1) := by decide +kernel
theorem dX7_readPair_53 : decode cX7_readPair 53 = .ok (.aload_n 0, 1) := by decide +kernel
theorem dX7_readPair_54 : decode cX7_readPair 54 = .ok (.bipush 97, 2) := by decide +kernel
theorem dX7_readPair_56 : decode cX7_readPair 56 = .ok (.invokevirtual 83, 3) := by decide +kernel
theorem dX7_readPair_59 : decode cX7_readPair 59 = .ok (.istore 4, 2) := by decide +kernel
theorem dX7_readPair_61 : decode cX7_readPair 61 = .ok (.aload_n 0, 1) := by decide +kernel
theorem dX7_readPair_62 : decode cX7_readPair 62 = .ok (.getfield 68, 3) := by decide +kernel
theorem dX7_readPair_65 : decode cX7_readPair 65 = .ok (.ifCond .ne 26, 3) := by decide +kernel
theorem dX7_readPair_68 : decode cX7_readPair 68 = .ok (.aload_n 0, 1) := by decide +kernel
theorem dX7_readPair_69 : decode cX7_readPair 69 = .ok (.aload_n 0, 1) := by decide +kernel
theorem dX7_readPair_70 : decode cX7_readPair 70 = .ok (.getfield 19, 3) := by decide +kernel
theorem dX7_readPair_73 : decode cX7_readPair 73 = .ok (.iload_n 1, 1) := by decide +kernel
theorem dX7_readPair_74 : decode cX7_readPair 74 = .ok (.iload_n 2, 1) := by decide +kernel
theorem dX7_readPair_75 : decode cX7_readPair 75 = .ok (.iload_n 3, 1) := by decide +kernel
theorem dX7_readPair_76 : decode cX7_readPair 76 = .ok (.invokevirtual 86, 3) := by decide +kernel
theorem dX7_readPair_79 : decode cX7_readPair 79 = .ok (.aload_n 0, 1) := by decide +kernel
theorem dX7_readPair_80 : decode cX7_readPair 80 = .ok (.aload_n 0, 1) := by decide +kernel
theorem dX7_readPair_81 : decode cX7_readPair 81 = .ok (.getfield 22, 3) := by decide +kernel
theorem dX7_readPair_84 : decode cX7_readPair 84 = .ok (.iload_n 1, 1) := by decide +kernel
theorem dX7_readPair_85 : decode cX7_readPair 85 = .ok (.iload_n 2, 1) := by decide +kernel
theorem dX7_readPair_86 : decode cX7_readPair 86 = .ok (.iload 4, 2) := by decide +kernel
theorem dX7_readPair_88 : decode cX7_readPair 88 = .ok (.invokevirtual 86, 3) := by decide +kernel
theorem dX7_readPair_91 : decode cX7_readPair 91 = .ok (.return_, 1) := by decide +kernel
theorem dX7_setConflicts_0 : decode cX7_setConflicts 0 = .ok (.aload_n 0, 1) := by decide +kernel
theorem dX7_setConflicts_1 : decode cX7_setConflicts 1 = .ok (.iconst 1, 1) := by decide +kernel
theorem dX7_setConflicts_2 : decode cX7_setConflicts 2 = .ok (.aload_n 0, 1) := by decide +kernel
theorem dX7_setConflicts_3 : decode cX7_setConflicts 3 = .ok (.invokevirtual 58, 3) := by decide +kernel
theorem dX7_setConflicts_6 : decode cX7_setConflicts 6 = .ok (.invokevirtual 54, 3) := by decide +kernel
theorem dX7_setConflicts_9 : decode cX7_setConflicts 9 = .ok (.ifCond .eq 5, 3) := by decide +kernel
theorem dX7_setConflicts_12 : decode cX7_setConflicts 12 = .ok (.iconst 0, 1) := by decide +kernel
theorem dX7_setConflicts_13 : decode cX7_setConflicts 13 = .ok (.ireturn, 1) := by decide +kernel
theorem dX7_setConflicts_14 : decode cX7_setConflicts 14 = .ok (.iconst 0, 1) := by decide +kernel
theorem dX7_setConflicts_15 : decode cX7_setConflicts 15 = .ok (.istore_n 1, 1) := by decide +kernel
theorem dX7_setConflicts_16 : decode cX7_setConflicts 16 = .ok (.iload_n 1, 1) := by decide +kernel
theorem dX7_setConflicts_17 : decode cX7_setConflicts 17 = .ok (.bipush 12, 2) := by decide +kernel
theorem dX7_setConflicts_19 : decode cX7_setConflicts 19 = .ok (.if_icmp .ge 39, 3) := by decide +kernel
theorem dX7_setConflicts_22 : decode cX7_setConflicts 22 = .ok (.aload_n 0, 1) := by decide +kernel
theorem dX7_setConflicts_23 : decode cX7_setConflicts 23 = .ok (.getfield 19, 3) := by decide +kernel
theorem dX7_setConflicts_26 : decode cX7_setConflicts 26 = .ok (.iload_n 1, 1) := by decide +kernel
theorem dX7_setConflicts_27 : decode cX7_setConflicts 27 = .ok (.aload_n 0, 1) := by decide +kernel
theorem dX7_setConflicts_28 : decode cX7_setConflicts 28 = .ok (.getfield 9, 3) := by decide +kernel
theorem dX7_setConflicts_31 : decode cX7_setConflicts 31 = .ok (.bipush 64, 2) := by decide +kernel
theorem dX7_setConflicts_33 : decode cX7_setConflicts 33 = .ok (.iload_n 1, 1) := by decide +kernel
theorem dX7_setConflicts_34 : decode cX7_setConflicts 34 = .ok (.iadd, 1) := by decide +kernel
theorem dX7_setConflicts_35 : decode cX7_setConflicts 35 = .ok (.iaload, 1) := by decide +kernel
theorem dX7_setConflicts_36 : decode cX7_setConflicts 36 = .ok (.iastore, 1) := by decide +kernel
theorem dX7_setConflicts_37 : decode cX7_setConflicts 37 = .ok (.aload_n 0, 1) := by decide +kernel
theorem dX7_setConflicts_38 : decode cX7_setConflicts 38 = .ok (.getfield 22, 3) := by decide +kernel
theorem dX7_setConflicts_41 : decode cX7_setConflicts 41 = .ok (.iload_n 1, 1) := by decide +kernel
theorem dX7_setConflicts_42 : decode cX7_setConflicts 42 = .ok (.aload_n 0, 1) := by decide +kernel
theorem dX7_setConflicts_43 : decode cX7_setConflicts 43 = .ok (.getfield 9, 3) := by decide +kernel
theorem dX7_setConflicts_46 : decode cX7_setConflicts 46 = .ok (.bipush 76, 2) := by decide +kernel
theorem dX7_setConflicts_48 : decode cX7_setConflicts 48 = .ok (.iload_n 1, 1) := by decide +kernel
theorem dX7_setConflicts_49 : decode cX7_setConflicts 49 = .ok (.iadd, 1) := by decide +kernel
theorem dX7_setConflicts_50 : decode cX7_setConflicts 50 = .ok (.iaload, 1) := by decide +kernel
theorem dX7_setConflicts_51 : decode cX7_setConflicts 51 = .ok (.iastore, 1) := by decide +kernel
theorem dX7_setConflicts_52 : decode cX7_setConflicts 52 = .ok (.iinc 1 1, 3) := by decide +kernel
theorem dX7_setConflicts_55 : decode cX7_setConflicts 55 = .ok (.goto (-39), 3) := by decide +kernel
theorem dX7_setConflicts_58 : decode cX7_setConflicts 58 = .ok (.aload_n 0, 1) := by decide +kernel
theorem dX7_setConflicts_59 : decode cX7_setConflicts 59 = .ok (.iconst 0, 1) := by decide +kernel
theorem dX7_setConflicts_60 : decode cX7_setConflicts 60 = .ok (.putfield 72, 3) := by decide +kernel
theorem dX7_setConflicts_63 : decode cX7_setConflicts 63 = .ok (.aload_n 0, 1) := by decide +kernel
theorem dX7_setConflicts_64 : decode cX7_setConflicts 64 = .ok (.iconst 0, 1) := by decide +kernel
theorem dX7_setConflicts_65 : decode cX7_setConflicts 65 = .ok (.putfield 68, 3) := by decide +kernel
theorem dX7_setConflicts_68 : decode cX7_setConflicts 68 = .ok (.iconst 0, 1) := by decide +kernel
theorem dX7_setConflicts_69 : decode cX7_setConflicts 69 = .ok (.istore_n 1, 1) := by decide +kernel
theorem dX7_setConflicts_70 : decode cX7_setConflicts 70 = .ok (.iconst 1, 1) := by decide +kernel
theorem dX7_setConflicts_71 : decode cX7_setConflicts 71 = .ok (.istore_n 2, 1) := by decide +kernel
theorem dX7_setConflicts_72 : decode cX7_setConflicts 72 = .ok (.iload_n 2, 1) := by decide +kernel
theorem dX7_setConflicts_73 : decode cX7_setConflicts 73 = .ok (.ifCond .eq 79, 3) := by decide +kernel
theorem dX7_setConflicts_76 : decode cX7_setConflicts 76 = .ok (.aload_n 0, 1) := by decide +kernel
theorem dX7_setConflicts_77 : decode cX7_setConflicts 77 = .ok (.invokevirtual 90, 3) := by decide +kernel
theorem dX7_setConflicts_80 : decode cX7_setConflicts 80 = .ok (.iinc 1 1, 3) := by decide +kernel
theorem dX7_setConflicts_83 : decode cX7_setConflicts 83 = .ok (.aload_n 0, 1) := by decide +kernel
theorem dX7_setConflicts_84 : decode cX7_setConflicts 84 = .ok (.getfield 68, 3) := by decide +kernel
theorem dX7_setConflicts_87 : decode cX7_setConflicts 87 = .ok (.ifCond .ne 18, 3) := by decide +kernel
theorem dX7_setConflicts_90 : decode cX7_setConflicts 90 = .ok (.aload_n 0, 1) := by decide +kernel
theorem dX7_setConflicts_91 : decode cX7_setConflicts 91 = .ok (.getfield 72, 3) := by decide +kernel
theorem dX7_setConflicts_94 : decode cX7_setConflicts 94 = .ok (.aload_n 0, 1) := by decide +kernel
theorem dX7_setConflicts_95 : decode cX7_setConflicts 95 = .ok (.getfield 65, 3) := by decide +kernel
theorem dX7_setConflicts_98 : decode cX7_setConflicts 98 = .ok (.if_icmp .ge 7, 3) := by decide +kernel
theorem dX7_setConflicts_101 : decode cX7_setConflicts 101 = .ok (.iconst 1, 1) := by decide +kernel
theorem dX7_setConflicts_102 : decode cX7_setConflicts 102 = .ok (.goto 4, 3) := by decide +kernel
theorem dX7_setConflicts_105 : decode cX7_setConflicts 105 = .ok (.iconst 0, 1) := by decide +kernel
theorem dX7_setConflicts_106 : decode cX7_setConflicts 106 = .ok (.istore_n 2, 1) := by decide +kernel
theorem dX7_setConflicts_107 : decode cX7_setConflicts 107 = .ok (.aload_n 0, 1) := by decide +kernel
theorem dX7_setConflicts_108 : decode cX7_setConflicts 108 = .ok (.dup, 1) := by decide +kernel
theorem dX7_setConflicts_109 : decode cX7_setConflicts 109 = .ok (.getfield 68, 3) := by decide +kernel
theorem dX7_setConflicts_112 : decode cX7_setConflicts 112 = .ok (.iload_n 2, 1) := by decide +kernel
theorem dX7_setConflicts_113 : decode cX7_setConflicts 113 = .ok (.ifCond .eq 16, 3) := by decide +kernel
theorem dX7_setConflicts_116 : decode cX7_setConflicts 116 = .ok (.aload_n 0, 1) := by decide +kernel
theorem dX7_setConflicts_117 : decode cX7_setConflicts 117 = .ok (.bipush 59, 2) := by decide +kernel
theorem dX7_setConflicts_119 : decode cX7_setConflicts 119 = .ok (.invokevirtual 83, 3) := by decide +kernel
theorem dX7_setConflicts_122 : decode cX7_setConflicts 122 = .ok (.ifCond .ne 7, 3) := by decide +kernel
theorem dX7_setConflicts_125 : decode cX7_setConflicts 125 = .ok (.iconst 1, 1) := by decide +kernel
theorem dX7_setConflicts_126 : decode cX7_setConflicts 126 = .ok (.goto 4, 3) := by decide +kernel
theorem dX7_setConflicts_129 : decode cX7_setConflicts 129 = .ok (.iconst 0, 1) := by decide +kernel
theorem dX7_setConflicts_130 : decode cX7_setConflicts 130 = .ok (.ior, 1) := by decide +kernel
theorem dX7_setConflicts_131 : decode cX7_setConflicts 131 = .ok (.putfield 68, 3) := by decide +kernel
theorem dX7_setConflicts_134 : decode cX7_setConflicts 134 = .ok (.iload_n 2, 1) := by decide +kernel
theorem dX7_setConflicts_135 : decode cX7_setConflicts 135 = .ok (.aload_n 0, 1) := by decide +kernel
theorem dX7_setConflicts_136 : decode cX7_setConflicts 136 = .ok (.getfield 68, 3) := by decide +kernel
theorem dX7_setConflicts_139 : decode cX7_setConflicts 139 = .ok (.ifCond .ne 7, 3) := by decide +kernel
theorem dX7_setConflicts_142 : decode cX7_setConflicts 142 = .ok (.iconst 1, 1) := by decide +kernel
theorem dX7_setConflicts_143 : decode cX7_setConflicts 143 = .ok (.goto 4, 3) := by decide +kernel
theorem dX7_setConflicts_146 : decode cX7_setConflicts 146 = .ok (.iconst 0, 1) := by decide +kernel
theorem dX7_setConflicts_147 : decode cX7_setConflicts 147 = .ok (.iand, 1) := by decide +kernel
theorem dX7_setConflicts_148 : decode cX7_setConflicts 148 = .ok (.istore_n 2, 1) := by decide +kernel
theorem dX7_setConflicts_149 : decode cX7_setConflicts 149 = .ok (.goto (-77), 3) := by decide +kernel
theorem dX7_setConflicts_152 : decode cX7_setConflicts 152 = .ok (.aload_n 0, 1) := by decide +kernel
theorem dX7_setConflicts_153 : decode cX7_setConflicts 153 = .ok (.iconst 0, 1) := by decide +kernel
theorem dX7_setConflicts_154 : decode cX7_setConflicts 154 = .ok (.putfield 65, 3) := by decide +kernel
theorem dX7_setConflicts_157 : decode cX7_setConflicts 157 = .ok (.aload_n 0, 1) := by decide +kernel
theorem dX7_setConflicts_158 : decode cX7_setConflicts 158 = .ok (.aload_n 0, 1) := by decide +kernel
theorem dX7_setConflicts_159 : decode cX7_setConflicts 159 = .ok (.getfield 68, 3) := by decide +kernel
theorem dX7_setConflicts_162 : decode cX7_setConflicts 162 = .ok (.ifCond .eq 10, 3) := by decide +kernel
theorem dX7_setConflicts_165 : decode cX7_setConflicts 165 = .ok (.aload_n 0, 1) := by decide +kernel
theorem dX7_setConflicts_166 : decode cX7_setConflicts 166 = .ok (.getfield 72, 3) := by decide +kernel
theorem dX7_setConflicts_169 : decode cX7_setConflicts 169 = .ok (.goto 4, 3) := by decide +kernel
theorem dX7_setConflicts_172 : decode cX7_setConflicts 172 = .ok (.iconst (-1), 1) := by decide +kernel
theorem dX7_setConflicts_173 : decode cX7_setConflicts 173 = .ok (.putfield 25, 3) := by decide +kernel
theorem dX7_setConflicts_176 : decode cX7_setConflicts 176 = .ok (.aload_n 0, 1) := by decide +kernel
theorem dX7_setConflicts_177 : decode cX7_setConflicts 177 = .ok (.iconst 2, 1) := by decide +kernel
theorem dX7_setConflicts_178 : decode cX7_setConflicts 178 = .ok (.aload_n 0, 1) := by decide +kernel
theorem dX7_setConflicts_179 : decode cX7_setConflicts 179 = .ok (.getfield 68, 3) := by decide +kernel
theorem dX7_setConflicts_182 : decode cX7_setConflicts 182 = .ok (.invokevirtual 54, 3) := by decide +kernel
theorem dX7_setConflicts_185 : decode cX7_setConflicts 185 = .ok (.ifCond .eq 5, 3) := by decide +kernel
theorem dX7_setConflicts_188 : decode cX7_setConflicts 188 = .ok (.iconst 0, 1) := by decide +kernel
theorem dX7_setConflicts_189 : decode cX7_setConflicts 189 = .ok (.ireturn, 1) := by decide +kernel
theorem dX7_setConflicts_190 : decode cX7_setConflicts 190 = .ok (.iconst 0, 1) := by decide +kernel
theorem dX7_setConflicts_191 : decode cX7_setConflicts 191 = .ok (.istore_n 3, 1) := by decide +kernel
theorem dX7_setConflicts_192 : decode cX7_setConflicts 192 = .ok (.iload_n 3, 1) := by decide +kernel
theorem dX7_setConflicts_193 : decode cX7_setConflicts 193 = .ok (.aload_n 0, 1) := by decide +kernel
theorem dX7_setConflicts_194 : decode cX7_setConflicts 194 = .ok (.getfield 9, 3) := by decide +kernel
theorem dX7_setConflicts_197 : decode cX7_setConflicts 197 = .ok (.iconst 0, 1) := by decide +kernel
theorem dX7_setConflicts_198 : decode cX7_setConflicts 198 = .ok (.iaload, 1) := by decide +kernel
theorem dX7_setConflicts_199 : decode cX7_setConflicts 199 = .ok (.if_icmp .ge 39, 3) := by decide +kernel
theorem dX7_setConflicts_202 : decode cX7_setConflicts 202 = .ok (.aload_n 0, 1) := by decide +kernel
theorem dX7_setConflicts_203 : decode cX7_setConflicts 203 = .ok (.getfield 9, 3) := by decide +kernel
theorem dX7_setConflicts_206 : decode cX7_setConflicts 206 = .ok (.bipush 64, 2) := by decide +kernel
theorem dX7_setConflicts_208 : decode cX7_setConflicts 208 = .ok (.iload_n 3, 1) := by decide +kernel
theorem dX7_setConflicts_209 : decode cX7_setConflicts 209 = .ok (.iadd, 1) := by decide +kernel
theorem dX7_setConflicts_210 : decode cX7_setConflicts 210 = .ok (.aload_n 0, 1) := by decide +kernel
theorem dX7_setConflicts_211 : decode cX7_setConflicts 211 = .ok (.getfield 19, 3) := by decide +kernel
theorem dX7_setConflicts_214 : decode cX7_setConflicts 214 = .ok (.iload_n 3, 1) := by decide +kernel
theorem dX7_setConflicts_215 : decode cX7_setConflicts 215 = .ok (.iaload, 1) := by decide +kernel
theorem dX7_setConflicts_216 : decode cX7_setConflicts 216 = .ok (.iastore, 1) := by decide +kernel
theorem dX7_setConflicts_217 : decode cX7_setConflicts 217 = .ok (.aload_n 0, 1) := by decide +kernel
theorem dX7_setConflicts_218 : decode cX7_setConflicts 218 = .ok (.getfield 9, 3) := by decide +kernel
theorem dX7_setConflicts_221 : decode cX7_setConflicts 221 = .ok (.bipush 76, 2) := by decide +kernel
theorem dX7_setConflicts_223 : decode cX7_setConflicts 223 = .ok (.iload_n 3, 1) := by decide +kernel
theorem dX7_setConflicts_224 : decode cX7_setConflicts 224 = .ok (.iadd, 1) := by decide +kernel
theorem dX7_setConflicts_225 : decode cX7_setConflicts 225 = .ok (.aload_n 0, 1) := by decide +kernel
theorem dX7_setConflicts_226 : decode cX7_setConflicts 226 = .ok (.getfield 22, 3) := by decide +kernel
theorem dX7_setConflicts_229 : decode cX7_setConflicts 229 = .ok (.iload_n 3, 1) := by decide +kernel
theorem dX7_setConflicts_230 : decode cX7_setConflicts 230 = .ok (.iaload, 1) := by decide +kernel
theorem dX7_setConflicts_231 : decode cX7_setConflicts 231 = .ok (.iastore, 1) := by decide +kernel
theorem dX7_setConflicts_232 : decode cX7_setConflicts 232 = .ok (.iinc 3 1, 3) := by decide +kernel
theorem dX7_setConflicts_235 : decode cX7_setConflicts 235 = .ok (.goto (-43), 3) := by decide +kernel
theorem dX7_setConflicts_238 : decode cX7_setConflicts 238 = .ok (.iload_n 1, 1) := by decide +kernel
theorem dX7_setConflicts_239 : decode cX7_setConflicts 239 = .ok (.ireturn, 1) := by decide +kernel
theorem dX7_errorPosition_0 : decode cX7_errorPosition 0 = .ok (.aload_n 0, 1) := by decide +kernel
theorem dX7_errorPosition_1 : decode cX7_errorPosition 1 = .ok (.iconst 0, 1) := by decide +kernel
theorem dX7_errorPosition_2 : decode cX7_errorPosition 2 = .ok (.putfield 43, 3) := by decide +kernel
theorem dX7_errorPosition_5 : decode cX7_errorPosition 5 = .ok (.aload_n 0, 1) := by decide +kernel
theorem dX7_errorPosition_6 : decode cX7_errorPosition 6 = .ok (.getfield 25, 3) := by decide +kernel
theorem dX7_errorPosition_9 : decode cX7_errorPosition 9 = .ok (.ireturn, 1) := by decide +kernel
theorem dX7_hasConflict_0 : decode cX7_hasConflict 0 = .ok (.aload_n 0, 1) := by decide +kernel
theorem dX7_hasConflict_1 : decode cX7_hasConflict 1 = .ok (.iconst 1, 1) := by decide +kernel
theorem dX7_hasConflict_2 : decode cX7_hasConflict 2 = .ok (.aload_n 0, 1) := by decide +kernel
theorem dX7_hasConflict_3 : decode cX7_hasConflict 3 = .ok (.iload_n 1, 1) := by decide +kernel
theorem dX7_hasConflict_4 : decode cX7_hasConflict 4 = .ok (.invokevirtual 62, 3) := by decide +kernel
theorem dX7_hasConflict_7 : decode cX7_hasConflict 7 = .ok (.ifCond .eq 11, 3) := by decide +kernel
theorem dX7_hasConflict_10 : decode cX7_hasConflict 10 = .ok (.aload_n 0, 1) := by decide +kernel
theorem dX7_hasConflict_11 : decode cX7_hasConflict 11 = .ok (.iload_n 2, 1) := by decide +kernel
theorem dX7_hasConflict_12 : decode cX7_hasConflict 12 = .ok (.invokevirtual 62, 3) := by decide +kernel
theorem dX7_hasConflict_15 : decode cX7_hasConflict 15 = .ok (.ifCond .ne 7, 3) := by decide +kernel
theorem dX7_hasConflict_18 : decode cX7_hasConflict 18 = .ok (.iconst 1, 1) := by decide +kernel
theorem dX7_hasConflict_19 : decode cX7_hasConflict 19 = .ok (.goto 4, 3) := by decide +kernel
theorem dX7_hasConflict_22 : decode cX7_hasConflict 22 = .ok (.iconst 0, 1) := by decide +kernel
theorem dX7_hasConflict_23 : decode cX7_hasConflict 23 = .ok (.invokevirtual 54, 3) := by decide +kernel
theorem dX7_hasConflict_26 : decode cX7_hasConflict 26 = .ok (.ifCond .ne 25, 3) := by decide +kernel
theorem dX7_hasConflict_29 : decode cX7_hasConflict 29 = .ok (.aload_n 0, 1) := by decide +kernel
theorem dX7_hasConflict_30 : decode cX7_hasConflict 30 = .ok (.iconst 2, 1) := by decide +kernel
theorem dX7_hasConflict_31 : decode cX7_hasConflict 31 = .ok (.iload_n 3, 1) := by decide +kernel
theorem dX7_hasConflict_32 : decode cX7_hasConflict 32 = .ok (.iconst 0, 1) := by decide +kernel
theorem dX7_hasConflict_33 : decode cX7_hasConflict 33 = .ok (.iconst 1, 1) := by decide +kernel
theorem dX7_hasConflict_34 : decode cX7_hasConflict 34 = .ok (.invokestatic 46, 3) := by decide +kernel
theorem dX7_hasConflict_37 : decode cX7_hasConflict 37 = .ok (.ifCond .ne 7, 3) := by decide +kernel
theorem dX7_hasConflict_40 : decode cX7_hasConflict 40 = .ok (.iconst 1, 1) := by decide +kernel
theorem dX7_hasConflict_41 : decode cX7_hasConflict 41 = .ok (.goto 4, 3) := by decide +kernel
theorem dX7_hasConflict_44 : decode cX7_hasConflict 44 = .ok (.iconst 0, 1) := by decide +kernel
theorem dX7_hasConflict_45 : decode cX7_hasConflict 45 = .ok (.invokevirtual 54, 3) := by decide +kernel
theorem dX7_hasConflict_48 : decode cX7_hasConflict 48 = .ok (.ifCond .eq 5, 3) := by decide +kernel
theorem dX7_hasConflict_51 : decode cX7_hasConflict 51 = .ok (.iconst 0, 1) := by decide +kernel
theorem dX7_hasConflict_52 : decode cX7_hasConflict 52 = .ok (.ireturn, 1) := by decide +kernel
theorem dX7_hasConflict_53 : decode cX7_hasConflict 53 = .ok (.aload_n 0, 1) := by decide +kernel
theorem dX7_hasConflict_54 : decode cX7_hasConflict 54 = .ok (.getfield 9, 3) := by decide +kernel
theorem dX7_hasConflict_57 : decode cX7_hasConflict 57 = .ok (.iload_n 3, 1) := by decide +kernel
theorem dX7_hasConflict_58 : decode cX7_hasConflict 58 = .ok (.ifCond .ne 8, 3) := by decide +kernel
theorem dX7_hasConflict_61 : decode cX7_hasConflict 61 = .ok (.bipush 64, 2) := by decide +kernel
theorem dX7_hasConflict_63 : decode cX7_hasConflict 63 = .ok (.goto 5, 3) := by decide +kernel
theorem dX7_hasConflict_66 : decode cX7_hasConflict 66 = .ok (.bipush 76, 2) := by decide +kernel
theorem dX7_hasConflict_68 : decode cX7_hasConflict 68 = .ok (.iload_n 1, 1) := by decide +kernel
theorem dX7_hasConflict_69 : decode cX7_hasConflict 69 = .ok (.iadd, 1) := by decide +kernel
theorem dX7_hasConflict_70 : decode cX7_hasConflict 70 = .ok (.iaload, 1) := by decide +kernel
theorem dX7_hasConflict_71 : decode cX7_hasConflict 71 = .ok (.iload_n 2, 1) := by decide +kernel
theorem dX7_hasConflict_72 : decode cX7_hasConflict 72 = .ok (.invokestatic 93, 3) := by decide +kernel
theorem dX7_hasConflict_75 : decode cX7_hasConflict 75 = .ok (.ireturn, 1) := by decide +kernel
theorem dX7_write_0 : decode cX7_write 0 = .ok (.aload_n 0, 1) := by decide +kernel
theorem dX7_write_1 : decode cX7_write 1 = .ok (.getfield 29, 3) := by decide +kernel
theorem dX7_write_4 : decode cX7_write 4 = .ok (.aload_n 0, 1) := by decide +kernel
theorem dX7_write_5 : decode cX7_write 5 = .ok (.getfield 96, 3) := by decide +kernel
theorem dX7_write_8 : decode cX7_write 8 = .ok (.iload_n 1, 1) := by decide +kernel
theorem dX7_write_9 : decode cX7_write 9 = .ok (.iastore, 1) := by decide +kernel
theorem dX7_write_10 : decode cX7_write 10 = .ok (.aload_n 0, 1) := by decide +kernel
theorem dX7_write_11 : decode cX7_write 11 = .ok (.dup, 1) := by decide +kernel
theorem dX7_write_12 : decode cX7_write 12 = .ok (.getfield 96, 3) := by decide +kernel
theorem dX7_write_15 : decode cX7_write 15 = .ok (.iconst 1, 1) := by decide +kernel
theorem dX7_write_16 : decode cX7_write 16 = .ok (.iadd, 1) := by decide +kernel
theorem dX7_write_17 : decode cX7_write 17 = .ok (.putfield 96, 3) := by decide +kernel
theorem dX7_write_20 : decode cX7_write 20 = .ok (.return_, 1) := by decide +kernel
theorem dX7_writeStation_0 : decode cX7_writeStation 0 = .ok (.iload_n 1, 1) := by decide +kernel
theorem dX7_writeStation_1 : decode cX7_writeStation 1 = .ok (.bipush 9, 2) := by decide +kernel
theorem dX7_writeStation_3 : decode cX7_writeStation 3 = .ok (.if_icmp .le 9, 3) := by decide +kernel
theorem dX7_writeStation_6 : decode cX7_writeStation 6 = .ok (.aload_n 0, 1) := by decide +kernel
theorem dX7_writeStation_7 : decode cX7_writeStation 7 = .ok (.bipush 49, 2) := by decide +kernel
theorem dX7_writeStation_9 : decode cX7_writeStation 9 = .ok (.invokevirtual 99, 3) := by decide +kernel
theorem dX7_writeStation_12 : decode cX7_writeStation 12 = .ok (.aload_n 0, 1) := by decide +kernel
theorem dX7_writeStation_13 : decode cX7_writeStation 13 = .ok (.bipush 48, 2) := by decide +kernel
theorem dX7_writeStation_15 : decode cX7_writeStation 15 = .ok (.iload_n 1, 1) := by decide +kernel
theorem dX7_writeStation_16 : decode cX7_writeStation 16 = .ok (.bipush 10, 2) := by decide +kernel
theorem dX7_writeStation_18 : decode cX7_writeStation 18 = .ok (.irem, 1) := by decide +kernel
theorem dX7_writeStation_19 : decode cX7_writeStation 19 = .ok (.iadd, 1) := by decide +kernel
theorem dX7_writeStation_20 : decode cX7_writeStation 20 = .ok (.invokevirtual 99, 3) := by decide +kernel
theorem dX7_writeStation_23 : decode cX7_writeStation 23 = .ok (.return_, 1) := by decide +kernel
theorem dX7_print_0 : decode cX7_print 0 = .ok (.aload_n 0, 1) := by decide +kernel
theorem dX7_print_1 : decode cX7_print 1 = .ok (.iconst 0, 1) := by decide +kernel
theorem dX7_print_2 : decode cX7_print 2 = .ok (.putfield 96, 3) := by decide +kernel
theorem dX7_print_5 : decode cX7_print 5 = .ok (.iconst 0, 1) := by decide +kernel
theorem dX7_print_6 : decode cX7_print 6 = .ok (.istore_n 1, 1) := by decide +kernel
theorem dX7_print_7 : decode cX7_print 7 = .ok (.iload_n 1, 1) := by decide +kernel
theorem dX7_print_8 : decode cX7_print 8 = .ok (.sipush 144, 3) := by decide +kernel
theorem dX7_print_11 : decode cX7_print 11 = .ok (.if_icmp .ge 125, 3) := by decide +kernel
theorem dX7_print_14 : decode cX7_print 14 = .ok (.iload_n 1, 1) := by decide +kernel
theorem dX7_print_15 : decode cX7_print 15 = .ok (.bipush 12, 2) := by decide +kernel
theorem dX7_print_17 : decode cX7_print 17 = .ok (.idiv, 1) := by decide +kernel
theorem dX7_print_18 : decode cX7_print 18 = .ok (.istore_n 2, 1) := by decide +kernel
theorem dX7_print_19 : decode cX7_print 19 = .ok (.iload_n 1, 1) := by decide +kernel
theorem dX7_print_20 : decode cX7_print 20 = .ok (.bipush 12, 2) := by decide +kernel
theorem dX7_print_22 : decode cX7_print 22 = .ok (.irem, 1) := by decide +kernel
theorem dX7_print_23 : decode cX7_print 23 = .ok (.istore_n 3, 1) := by decide +kernel
theorem dX7_print_24 : decode cX7_print 24 = .ok (.aload_n 0, 1) := by decide +kernel
theorem dX7_print_25 : decode cX7_print 25 = .ok (.getfield 9, 3) := by decide +kernel
theorem dX7_print_28 : decode cX7_print 28 = .ok (.bipush 64, 2) := by decide +kernel
theorem dX7_print_30 : decode cX7_print 30 = .ok (.iload_n 2, 1) := by decide +kernel
theorem dX7_print_31 : decode cX7_print 31 = .ok (.iadd, 1) := by decide +kernel
theorem dX7_print_32 : decode cX7_print 32 = .ok (.iaload, 1) := by decide +kernel
theorem dX7_print_33 : decode cX7_print 33 = .ok (.iload_n 3, 1) := by decide +kernel
theorem dX7_print_34 : decode cX7_print 34 = .ok (.invokestatic 93, 3) := by decide +kernel
theorem dX7_print_37 : decode cX7_print 37 = .ok (.istore 4, 2) := by decide +kernel
theorem dX7_print_39 : decode cX7_print 39 = .ok (.aload_n 0, 1) := by decide +kernel
theorem dX7_print_40 : decode cX7_print 40 = .ok (.getfield 9, 3) := by decide +kernel
theorem dX7_print_43 : decode cX7_print 43 = .ok (.bipush 76, 2) := by decide +kernel
theorem dX7_print_45 : decode cX7_print 45 = .ok (.iload_n 2, 1) := by decide +kernel
theorem dX7_print_46 : decode cX7_print 46 = .ok (.iadd, 1) := by decide +kernel
theorem dX7_print_47 : decode cX7_print 47 = .ok (.iaload, 1) := by decide +kernel
theorem dX7_print_48 : decode cX7_print 48 = .ok (.iload_n 3, 1) := by decide +kernel
theorem dX7_print_49 : decode cX7_print 49 = .ok (.invokestatic 93, 3) := by decide +kernel
theorem dX7_print_52 : decode cX7_print 52 = .ok (.istore 5, 2) := by decide +kernel
theorem dX7_print_54 : decode cX7_print 54 = .ok (.iload_n 2, 1) := by decide +kernel
theorem dX7_print_55 : decode cX7_print 55 = .ok (.iload_n 3, 1) := by decide +kernel
theorem dX7_print_56 : decode cX7_print 56 = .ok (.if_icmp .ge 74, 3) := by decide +kernel
theorem dX7_print_59 : decode cX7_print 59 = .ok (.iload_n 3, 1) := by decide +kernel
theorem dX7_print_60 : decode cX7_print 60 = .ok (.aload_n 0, 1) := by decide +kernel
theorem dX7_print_61 : decode cX7_print 61 = .ok (.getfield 9, 3) := by decide +kernel
theorem dX7_print_64 : decode cX7_print 64 = .ok (.iconst 0, 1) := by decide +kernel
theorem dX7_print_65 : decode cX7_print 65 = .ok (.iaload, 1) := by decide +kernel
theorem dX7_print_66 : decode cX7_print 66 = .ok (.if_icmp .ge 64, 3) := by decide +kernel
theorem dX7_print_69 : decode cX7_print 69 = .ok (.iload 4, 2) := by decide +kernel
theorem dX7_print_71 : decode cX7_print 71 = .ok (.ifCond .ne 8, 3) := by decide +kernel
theorem dX7_print_74 : decode cX7_print 74 = .ok (.iload 5, 2) := by decide +kernel
theorem dX7_print_76 : decode cX7_print 76 = .ok (.ifCond .eq 54, 3) := by decide +kernel
theorem dX7_print_79 : decode cX7_print 79 = .ok (.aload_n 0, 1) := by decide +kernel
theorem dX7_print_80 : decode cX7_print 80 = .ok (.getfield 96, 3) := by decide +kernel
theorem dX7_print_83 : decode cX7_print 83 = .ok (.ifCond .le 9, 3) := by decide +kernel
theorem dX7_print_86 : decode cX7_print 86 = .ok (.aload_n 0, 1) := by decide +kernel
theorem dX7_print_87 : decode cX7_print 87 = .ok (.bipush 59, 2) := by decide +kernel
theorem dX7_print_89 : decode cX7_print 89 = .ok (.invokevirtual 99, 3) := by decide +kernel
theorem dX7_print_92 : decode cX7_print 92 = .ok (.aload_n 0, 1) := by decide +kernel
theorem dX7_print_93 : decode cX7_print 93 = .ok (.iload_n 2, 1) := by decide +kernel
theorem dX7_print_94 : decode cX7_print 94 = .ok (.invokevirtual 103, 3) := by decide +kernel
theorem dX7_print_97 : decode cX7_print 97 = .ok (.aload_n 0, 1) := by decide +kernel
theorem dX7_print_98 : decode cX7_print 98 = .ok (.bipush 45, 2) := by decide +kernel
theorem dX7_print_100 : decode cX7_print 100 = .ok (.invokevirtual 99, 3) := by decide +kernel
theorem dX7_print_103 : decode cX7_print 103 = .ok (.aload_n 0, 1) := by decide +kernel
theorem dX7_print_104 : decode cX7_print 104 = .ok (.iload_n 3, 1) := by decide +kernel
theorem dX7_print_105 : decode cX7_print 105 = .ok (.invokevirtual 103, 3) := by decide +kernel
theorem dX7_print_108 : decode cX7_print 108 = .ok (.iload 4, 2) := by decide +kernel
theorem dX7_print_110 : decode cX7_print 110 = .ok (.ifCond .eq 9, 3) := by decide +kernel
theorem dX7_print_113 : decode cX7_print 113 = .ok (.aload_n 0, 1) := by decide +kernel
theorem dX7_print_114 : decode cX7_print 114 = .ok (.bipush 99, 2) := by decide +kernel
theorem dX7_print_116 : decode cX7_print 116 = .ok (.invokevirtual 99, 3) := by decide +kernel
theorem dX7_print_119 : decode cX7_print 119 = .ok (.iload 5, 2) := by decide +kernel
theorem dX7_print_121 : decode cX7_print 121 = .ok (.ifCond .eq 9, 3) := by decide +kernel
theorem dX7_print_124 : decode cX7_print 124 = .ok (.aload_n 0, 1) := by decide +kernel
theorem dX7_print_125 : decode cX7_print 125 = .ok (.bipush 97, 2) := by decide +kernel
theorem dX7_print_127 : decode cX7_print 127 = .ok (.invokevirtual 99, 3) := by decide +kernel
theorem dX7_print_130 : decode cX7_print 130 = .ok (.iinc 1 1, 3) := by decide +kernel
theorem dX7_print_133 : decode cX7_print 133 = .ok (.goto (-126), 3) := by decide +kernel
theorem dX7_print_136 : decode cX7_print 136 = .ok (.return_, 1) := by decide +kernel
theorem dX7_conflicts_0 : decode cX7_conflicts 0 = .ok (.aload_n 0, 1) := by decide +kernel
theorem dX7_conflicts_1 : decode cX7_conflicts 1 = .ok (.invokevirtual 106, 3) := by decide +kernel
theorem dX7_conflicts_4 : decode cX7_conflicts 4 = .ok (.aload_n 0, 1) := by decide +kernel
theorem dX7_conflicts_5 : decode cX7_conflicts 5 = .ok (.iconst 1, 1) := by decide +kernel
theorem dX7_conflicts_6 : decode cX7_conflicts 6 = .ok (.iload_n 1, 1) := by decide +kernel
theorem dX7_conflicts_7 : decode cX7_conflicts 7 = .ok (.iconst (-1), 1) := by decide +kernel
theorem dX7_conflicts_8 : decode cX7_conflicts 8 = .ok (.aload_n 0, 1) := by decide +kernel
theorem dX7_conflicts_9 : decode cX7_conflicts 9 = .ok (.getfield 96, 3) := by decide +kernel
theorem dX7_conflicts_12 : decode cX7_conflicts 12 = .ok (.iconst 1, 1) := by decide +kernel
theorem dX7_conflicts_13 : decode cX7_conflicts 13 = .ok (.isub, 1) := by decide +kernel
theorem dX7_conflicts_14 : decode cX7_conflicts 14 = .ok (.invokestatic 46, 3) := by decide +kernel
theorem dX7_conflicts_17 : decode cX7_conflicts 17 = .ok (.ifCond .ne 7, 3) := by decide +kernel
theorem dX7_conflicts_20 : decode cX7_conflicts 20 = .ok (.iconst 1, 1) := by decide +kernel
theorem dX7_conflicts_21 : decode cX7_conflicts 21 = .ok (.goto 4, 3) := by decide +kernel
theorem dX7_conflicts_24 : decode cX7_conflicts 24 = .ok (.iconst 0, 1) := by decide +kernel
theorem dX7_conflicts_25 : decode cX7_conflicts 25 = .ok (.invokevirtual 54, 3) := by decide +kernel
theorem dX7_conflicts_28 : decode cX7_conflicts 28 = .ok (.ifCond .eq 5, 3) := by decide +kernel
theorem dX7_conflicts_31 : decode cX7_conflicts 31 = .ok (.iconst 0, 1) := by decide +kernel
theorem dX7_conflicts_32 : decode cX7_conflicts 32 = .ok (.ireturn, 1) := by decide +kernel
theorem dX7_conflicts_33 : decode cX7_conflicts 33 = .ok (.iload_n 1, 1) := by decide +kernel
theorem dX7_conflicts_34 : decode cX7_conflicts 34 = .ok (.ifCond .ge 10, 3) := by decide +kernel
theorem dX7_conflicts_37 : decode cX7_conflicts 37 = .ok (.aload_n 0, 1) := by decide +kernel
theorem dX7_conflicts_38 : decode cX7_conflicts 38 = .ok (.getfield 96, 3) := by decide +kernel
theorem dX7_conflicts_41 : decode cX7_conflicts 41 = .ok (.goto 9, 3) := by decide +kernel
theorem dX7_conflicts_44 : decode cX7_conflicts 44 = .ok (.aload_n 0, 1) := by decide +kernel
theorem dX7_conflicts_45 : decode cX7_conflicts 45 = .ok (.getfield 29, 3) := by decide +kernel
theorem dX7_conflicts_48 : decode cX7_conflicts 48 = .ok (.iload_n 1, 1) := by decide +kernel
theorem dX7_conflicts_49 : decode cX7_conflicts 49 = .ok (.iaload, 1) := by decide +kernel
theorem dX7_conflicts_50 : decode cX7_conflicts 50 = .ok (.ireturn, 1) := by decide +kernel
theorem dX7_degree_0 : decode cX7_degree 0 = .ok (.aload_n 0, 1) := by decide +kernel
theorem dX7_degree_1 : decode cX7_degree 1 = .ok (.getfield 9, 3) := by decide +kernel
theorem dX7_degree_4 : decode cX7_degree 4 = .ok (.bipush 64, 2) := by decide +kernel
theorem dX7_degree_6 : decode cX7_degree 6 = .ok (.iload_n 1, 1) := by decide +kernel
theorem dX7_degree_7 : decode cX7_degree 7 = .ok (.iadd, 1) := by decide +kernel
theorem dX7_degree_8 : decode cX7_degree 8 = .ok (.iaload, 1) := by decide +kernel
theorem dX7_degree_9 : decode cX7_degree 9 = .ok (.aload_n 0, 1) := by decide +kernel
theorem dX7_degree_10 : decode cX7_degree 10 = .ok (.getfield 9, 3) := by decide +kernel
theorem dX7_degree_13 : decode cX7_degree 13 = .ok (.bipush 76, 2) := by decide +kernel
theorem dX7_degree_15 : decode cX7_degree 15 = .ok (.iload_n 1, 1) := by decide +kernel
theorem dX7_degree_16 : decode cX7_degree 16 = .ok (.iadd, 1) := by decide +kernel
theorem dX7_degree_17 : decode cX7_degree 17 = .ok (.iaload, 1) := by decide +kernel
theorem dX7_degree_18 : decode cX7_degree 18 = .ok (.ior, 1) := by decide +kernel
theorem dX7_degree_19 : decode cX7_degree 19 = .ok (.invokestatic 109, 3) := by decide +kernel
theorem dX7_degree_22 : decode cX7_degree 22 = .ok (.ireturn, 1) := by decide +kernel
theorem dX7_station_0 : decode cX7_station 0 = .ok (.aload_n 0, 1) := by decide +kernel
theorem dX7_station_1 : decode cX7_station 1 = .ok (.iconst 1, 1) := by decide +kernel
theorem dX7_station_2 : decode cX7_station 2 = .ok (.aload_n 0, 1) := by decide +kernel
theorem dX7_station_3 : decode cX7_station 3 = .ok (.iload_n 1, 1) := by decide +kernel
theorem dX7_station_4 : decode cX7_station 4 = .ok (.invokevirtual 62, 3) := by decide +kernel
theorem dX7_station_7 : decode cX7_station 7 = .ok (.ifCond .ne 7, 3) := by decide +kernel
theorem dX7_station_10 : decode cX7_station 10 = .ok (.iconst 1, 1) := by decide +kernel
theorem dX7_station_11 : decode cX7_station 11 = .ok (.goto 4, 3) := by decide +kernel
theorem dX7_station_14 : decode cX7_station 14 = .ok (.iconst 0, 1) := by decide +kernel
theorem dX7_station_15 : decode cX7_station 15 = .ok (.invokevirtual 54, 3) := by decide +kernel
theorem dX7_station_18 : decode cX7_station 18 = .ok (.ifCond .ne 25, 3) := by decide +kernel
theorem dX7_station_21 : decode cX7_station 21 = .ok (.aload_n 0, 1) := by decide +kernel
theorem dX7_station_22 : decode cX7_station 22 = .ok (.iconst 2, 1) := by decide +kernel
theorem dX7_station_23 : decode cX7_station 23 = .ok (.iload_n 2, 1) := by decide +kernel
theorem dX7_station_24 : decode cX7_station 24 = .ok (.iconst 0, 1) := by decide +kernel
theorem dX7_station_25 : decode cX7_station 25 = .ok (.iconst 5, 1) := by decide +kernel
theorem dX7_station_26 : decode cX7_station 26 = .ok (.invokestatic 46, 3) := by decide +kernel
theorem dX7_station_29 : decode cX7_station 29 = .ok (.ifCond .ne 7, 3) := by decide +kernel
theorem dX7_station_32 : decode cX7_station 32 = .ok (.iconst 1, 1) := by decide +kernel
theorem dX7_station_33 : decode cX7_station 33 = .ok (.goto 4, 3) := by decide +kernel
theorem dX7_station_36 : decode cX7_station 36 = .ok (.iconst 0, 1) := by decide +kernel
theorem dX7_station_37 : decode cX7_station 37 = .ok (.invokevirtual 54, 3) := by decide +kernel
theorem dX7_station_40 : decode cX7_station 40 = .ok (.ifCond .eq 5, 3) := by decide +kernel
theorem dX7_station_43 : decode cX7_station 43 = .ok (.iconst 0, 1) := by decide +kernel
theorem dX7_station_44 : decode cX7_station 44 = .ok (.ireturn, 1) := by decide +kernel
theorem dX7_station_45 : decode cX7_station 45 = .ok (.iload_n 2, 1) := by decide +kernel
theorem dX7_station_46 : decode cX7_station 46 = .ok (.tableswitch 79 0 4 #[34, 43, 53, 63, 73], 34) := by decide +kernel
theorem dX7_station_80 : decode cX7_station 80 = .ok (.aload_n 0, 1) := by decide +kernel
theorem dX7_station_81 : decode cX7_station 81 = .ok (.getfield 9, 3) := by decide +kernel
theorem dX7_station_84 : decode cX7_station 84 = .ok (.iconst 4, 1) := by decide +kernel
theorem dX7_station_85 : decode cX7_station 85 = .ok (.iload_n 1, 1) := by decide +kernel
theorem dX7_station_86 : decode cX7_station 86 = .ok (.iadd, 1) := by decide +kernel
theorem dX7_station_87 : decode cX7_station 87 = .ok (.iaload, 1) := by decide +kernel
theorem dX7_station_88 : decode cX7_station 88 = .ok (.ireturn, 1) := by decide +kernel
theorem dX7_station_89 : decode cX7_station 89 = .ok (.aload_n 0, 1) := by decide +kernel
theorem dX7_station_90 : decode cX7_station 90 = .ok (.getfield 9, 3) := by decide +kernel
theorem dX7_station_93 : decode cX7_station 93 = .ok (.bipush 16, 2) := by decide +kernel
theorem dX7_station_95 : decode cX7_station 95 = .ok (.iload_n 1, 1) := by decide +kernel
theorem dX7_station_96 : decode cX7_station 96 = .ok (.iadd, 1) := by decide +kernel
theorem dX7_station_97 : decode cX7_station 97 = .ok (.iaload, 1) := by decide +kernel
theorem dX7_station_98 : decode cX7_station 98 = .ok (.ireturn, 1) := by decide +kernel
theorem dX7_station_99 : decode cX7_station 99 = .ok (.aload_n 0, 1) := by decide +kernel
theorem dX7_station_100 : decode cX7_station 100 = .ok (.getfield 9, 3) := by decide +kernel
theorem dX7_station_103 : decode cX7_station 103 = .ok (.bipush 28, 2) := by decide +kernel
theorem dX7_station_105 : decode cX7_station 105 = .ok (.iload_n 1, 1) := by decide +kernel
theorem dX7_station_106 : decode cX7_station 106 = .ok (.iadd, 1) := by decide +kernel
theorem dX7_station_107 : decode cX7_station 107 = .ok (.iaload, 1) := by decide +kernel
theorem dX7_station_108 : decode cX7_station 108 = .ok (.ireturn, 1) := by decide +kernel
theorem dX7_station_109 : decode cX7_station 109 = .ok (.aload_n 0, 1) := by decide +kernel
theorem dX7_station_110 : decode cX7_station 110 = .ok (.getfield 9, 3) := by decide +kernel
theorem dX7_station_113 : decode cX7_station 113 = .ok (.bipush 40, 2) := by decide +kernel
theorem dX7_station_115 : decode cX7_station 115 = .ok (.iload_n 1, 1) := by decide +kernel
theorem dX7_station_116 : decode cX7_station 116 = .ok (.iadd, 1) := by decide +kernel
theorem dX7_station_117 : decode cX7_station 117 = .ok (.iaload, 1) := by decide +kernel
theorem dX7_station_118 : decode cX7_station 118 = .ok (.ireturn, 1) := by decide +kernel
theorem dX7_station_119 : decode cX7_station 119 = .ok (.aload_n 0, 1) := by decide +kernel
theorem dX7_station_120 : decode cX7_station 120 = .ok (.iload_n 1, 1) := by decide +kernel
theorem dX7_station_121 : decode cX7_station 121 = .ok (.invokevirtual 112, 3) := by decide +kernel
theorem dX7_station_124 : decode cX7_station 124 = .ok (.ireturn, 1) := by decide +kernel
theorem dX7_station_125 : decode cX7_station 125 = .ok (.aload_n 0, 1) := by decide +kernel
theorem dX7_station_126 : decode cX7_station 126 = .ok (.getfield 9, 3) := by decide +kernel
theorem dX7_station_129 : decode cX7_station 129 = .ok (.bipush 52, 2) := by decide +kernel
theorem dX7_station_131 : decode cX7_station 131 = .ok (.iload_n 1, 1) := by decide +kernel
theorem dX7_station_132 : decode cX7_station 132 = .ok (.iadd, 1) := by decide +kernel
theorem dX7_station_133 : decode cX7_station 133 = .ok (.iaload, 1) := by decide +kernel
theorem dX7_station_134 : decode cX7_station 134 = .ok (.ireturn, 1) := by decide +kernel
theorem dX7_volume_0 : decode cX7_volume 0 = .ok (.aload_n 0, 1) := by decide +kernel
theorem dX7_volume_1 : decode cX7_volume 1 = .ok (.iload_n 1, 1) := by decide +kernel
theorem dX7_volume_2 : decode cX7_volume 2 = .ok (.invokevirtual 112, 3) := by decide +kernel
theorem dX7_volume_5 : decode cX7_volume 5 = .ok (.iconst 1, 1) := by decide +kernel
theorem dX7_volume_6 : decode cX7_volume 6 = .ok (.iadd, 1) := by decide +kernel
theorem dX7_volume_7 : decode cX7_volume 7 = .ok (.i2f, 1) := by decide +kernel
theorem dX7_volume_8 : decode cX7_volume 8 = .ok (.aload_n 0, 1) := by decide +kernel
theorem dX7_volume_9 : decode cX7_volume 9 = .ok (.getfield 9, 3) := by decide +kernel
theorem dX7_volume_12 : decode cX7_volume 12 = .ok (.bipush 28, 2) := by decide +kernel
theorem dX7_volume_14 : decode cX7_volume 14 = .ok (.iload_n 1, 1) := by decide +kernel
theorem dX7_volume_15 : decode cX7_volume 15 = .ok (.iadd, 1) := by decide +kernel
theorem dX7_volume_16 : decode cX7_volume 16 = .ok (.iaload, 1) := by decide +kernel
theorem dX7_volume_17 : decode cX7_volume 17 = .ok (.i2f, 1) := by decide +kernel
theorem dX7_volume_18 : decode cX7_volume 18 = .ok (.fmul, 1) := by decide +kernel
theorem dX7_volume_19 : decode cX7_volume 19 = .ok (.ldc 115, 2) := by decide +kernel
theorem dX7_volume_21 : decode cX7_volume 21 = .ok (.fdiv, 1) := by decide +kernel
theorem dX7_volume_22 : decode cX7_volume 22 = .ok (.freturn, 1) := by decide +kernel
theorem dX7_priceOf_0 : decode cX7_priceOf 0 = .ok (.aload_n 0, 1) := by decide +kernel
theorem dX7_priceOf_1 : decode cX7_priceOf 1 = .ok (.iload_n 1, 1) := by decide +kernel
theorem dX7_priceOf_2 : decode cX7_priceOf 2 = .ok (.invokevirtual 116, 3) := by decide +kernel
theorem dX7_priceOf_5 : decode cX7_priceOf 5 = .ok (.iload_n 2, 1) := by decide +kernel
theorem dX7_priceOf_6 : decode cX7_priceOf 6 = .ok (.i2f, 1) := by decide +kernel
theorem dX7_priceOf_7 : decode cX7_priceOf 7 = .ok (.fmul, 1) := by decide +kernel
theorem dX7_priceOf_8 : decode cX7_priceOf 8 = .ok (.f2i, 1) := by decide +kernel
theorem dX7_priceOf_9 : decode cX7_priceOf 9 = .ok (.ireturn, 1) := by decide +kernel
theorem dX7_volumeBits_0 : decode cX7_volumeBits 0 = .ok (.aload_n 0, 1) := by decide +kernel
theorem dX7_volumeBits_1 : decode cX7_volumeBits 1 = .ok (.iconst 1, 1) := by decide +kernel
theorem dX7_volumeBits_2 : decode cX7_volumeBits 2 = .ok (.aload_n 0, 1) := by decide +kernel
theorem dX7_volumeBits_3 : decode cX7_volumeBits 3 = .ok (.iload_n 1, 1) := by decide +kernel
theorem dX7_volumeBits_4 : decode cX7_volumeBits 4 = .ok (.invokevirtual 62, 3) := by decide +kernel
theorem dX7_volumeBits_7 : decode cX7_volumeBits 7 = .ok (.ifCond .ne 7, 3) := by decide +kernel
theorem dX7_volumeBits_10 : decode cX7_volumeBits 10 = .ok (.iconst 1, 1) := by decide +kernel
theorem dX7_volumeBits_11 : decode cX7_volumeBits 11 = .ok (.goto 4, 3) := by decide +kernel
theorem dX7_volumeBits_14 : decode cX7_volumeBits 14 = .ok (.iconst 0, 1) := by decide +kernel
theorem dX7_volumeBits_15 : decode cX7_volumeBits 15 = .ok (.invokevirtual 54, 3) := by decide +kernel
theorem dX7_volumeBits_18 : decode cX7_volumeBits 18 = .ok (.ifCond .eq 7, 3) := by decide +kernel
theorem dX7_volumeBits_21 : decode cX7_volumeBits 21 = .ok (.iconst 0, 1) := by decide +kernel
theorem dX7_volumeBits_22 : decode cX7_volumeBits 22 = .ok (.goto 11, 3) := by decide +kernel
theorem dX7_volumeBits_25 : decode cX7_volumeBits 25 = .ok (.aload_n 0, 1) := by decide +kernel
theorem dX7_volumeBits_26 : decode cX7_volumeBits 26 = .ok (.iload_n 1, 1) := by decide +kernel
theorem dX7_volumeBits_27 : decode cX7_volumeBits 27 = .ok (.invokevirtual 116, 3) := by decide +kernel
theorem dX7_volumeBits_30 : decode cX7_volumeBits 30 = .ok (.invokestatic 120, 3) := by decide +kernel
theorem dX7_volumeBits_33 : decode cX7_volumeBits 33 = .ok (.ireturn, 1) := by decide +kernel
theorem dX7_priceAt_0 : decode cX7_priceAt 0 = .ok (.aload_n 0, 1) := by decide +kernel
theorem dX7_priceAt_1 : decode cX7_priceAt 1 = .ok (.iconst 1, 1) := by decide +kernel
theorem dX7_priceAt_2 : decode cX7_priceAt 2 = .ok (.aload_n 0, 1) := by decide +kernel
theorem dX7_priceAt_3 : decode cX7_priceAt 3 = .ok (.iload_n 1, 1) := by decide +kernel
theorem dX7_priceAt_4 : decode cX7_priceAt 4 = .ok (.invokevirtual 62, 3) := by decide +kernel
theorem dX7_priceAt_7 : decode cX7_priceAt 7 = .ok (.ifCond .ne 7, 3) := by decide +kernel
theorem dX7_priceAt_10 : decode cX7_priceAt 10 = .ok (.iconst 1, 1) := by decide +kernel
theorem dX7_priceAt_11 : decode cX7_priceAt 11 = .ok (.goto 4, 3) := by decide +kernel
theorem dX7_priceAt_14 : decode cX7_priceAt 14 = .ok (.iconst 0, 1) := by decide +kernel
theorem dX7_priceAt_15 : decode cX7_priceAt 15 = .ok (.invokevirtual 54, 3) := by decide +kernel
theorem dX7_priceAt_18 : decode cX7_priceAt 18 = .ok (.ifCond .ne 27, 3) := by decide +kernel
theorem dX7_priceAt_21 : decode cX7_priceAt 21 = .ok (.aload_n 0, 1) := by decide +kernel
theorem dX7_priceAt_22 : decode cX7_priceAt 22 = .ok (.iconst 2, 1) := by decide +kernel
theorem dX7_priceAt_23 : decode cX7_priceAt 23 = .ok (.iload_n 2, 1) := by decide +kernel
theorem dX7_priceAt_24 : decode cX7_priceAt 24 = .ok (.iconst 0, 1) := by decide +kernel
theorem dX7_priceAt_25 : decode cX7_priceAt 25 = .ok (.sipush 1000, 3) := by decide +kernel
theorem dX7_priceAt_28 : decode cX7_priceAt 28 = .ok (.invokestatic 46, 3) := by decide +kernel
theorem dX7_priceAt_31 : decode cX7_priceAt 31 = .ok (.ifCond .ne 7, 3) := by decide +kernel
theorem dX7_priceAt_34 : decode cX7_priceAt 34 = .ok (.iconst 1, 1) := by decide +kernel
theorem dX7_priceAt_35 : decode cX7_priceAt 35 = .ok (.goto 4, 3) := by decide +kernel
theorem dX7_priceAt_38 : decode cX7_priceAt 38 = .ok (.iconst 0, 1) := by decide +kernel
theorem dX7_priceAt_39 : decode cX7_priceAt 39 = .ok (.invokevirtual 54, 3) := by decide +kernel
theorem dX7_priceAt_42 : decode cX7_priceAt 42 = .ok (.ifCond .eq 7, 3) := by decide +kernel
theorem dX7_priceAt_45 : decode cX7_priceAt 45 = .ok (.iconst 0, 1) := by decide +kernel
theorem dX7_priceAt_46 : decode cX7_priceAt 46 = .ok (.goto 9, 3) := by decide +kernel
theorem dX7_priceAt_49 : decode cX7_priceAt 49 = .ok (.aload_n 0, 1) := by decide +kernel
theorem dX7_priceAt_50 : decode cX7_priceAt 50 = .ok (.iload_n 1, 1) := by decide +kernel
theorem dX7_priceAt_51 : decode cX7_priceAt 51 = .ok (.iload_n 2, 1) := by decide +kernel
theorem dX7_priceAt_52 : decode cX7_priceAt 52 = .ok (.invokevirtual 126, 3) := by decide +kernel
theorem dX7_priceAt_55 : decode cX7_priceAt 55 = .ok (.ireturn, 1) := by decide +kernel
theorem dX7_startSearch_0 : decode cX7_startSearch 0 = .ok (.iconst 0, 1) := by decide +kernel
theorem dX7_startSearch_1 : decode cX7_startSearch 1 = .ok (.istore_n 3, 1) := by decide +kernel
theorem dX7_startSearch_2 : decode cX7_startSearch 2 = .ok (.iload_n 3, 1) := by decide +kernel
theorem dX7_startSearch_3 : decode cX7_startSearch 3 = .ok (.aload_n 0, 1) := by decide +kernel
theorem dX7_startSearch_4 : decode cX7_startSearch 4 = .ok (.getfield 9, 3) := by decide +kernel
theorem dX7_startSearch_7 : decode cX7_startSearch 7 = .ok (.iconst 0, 1) := by decide +kernel
theorem dX7_startSearch_8 : decode cX7_startSearch 8 = .ok (.iaload, 1) := by decide +kernel
theorem dX7_startSearch_9 : decode cX7_startSearch 9 = .ok (.if_icmp .ge 39, 3) := by decide +kernel
theorem dX7_startSearch_12 : decode cX7_startSearch 12 = .ok (.aload_n 0, 1) := by decide +kernel
theorem dX7_startSearch_13 : decode cX7_startSearch 13 = .ok (.getfield 34, 3) := by decide +kernel
theorem dX7_startSearch_16 : decode cX7_startSearch 16 = .ok (.iconst 0, 1) := by decide +kernel
theorem dX7_startSearch_17 : decode cX7_startSearch 17 = .ok (.aaload, 1) := by decide +kernel
theorem dX7_startSearch_18 : decode cX7_startSearch 18 = .ok (.iload_n 3, 1) := by decide +kernel
theorem dX7_startSearch_19 : decode cX7_startSearch 19 = .ok (.iload_n 1, 1) := by decide +kernel
theorem dX7_startSearch_20 : decode cX7_startSearch 20 = .ok (.iload_n 3, 1) := by decide +kernel
theorem dX7_startSearch_21 : decode cX7_startSearch 21 = .ok (.invokestatic 93, 3) := by decide +kernel
theorem dX7_startSearch_24 : decode cX7_startSearch 24 = .ok (.ifCond .eq 16, 3) := by decide +kernel
theorem dX7_startSearch_27 : decode cX7_startSearch 27 = .ok (.aload_n 0, 1) := by decide +kernel
theorem dX7_startSearch_28 : decode cX7_startSearch 28 = .ok (.getfield 9, 3) := by decide +kernel
theorem dX7_startSearch_31 : decode cX7_startSearch 31 = .ok (.iconst 4, 1) := by decide +kernel
theorem dX7_startSearch_32 : decode cX7_startSearch 32 = .ok (.iload_n 3, 1) := by decide +kernel
theorem dX7_startSearch_33 : decode cX7_startSearch 33 = .ok (.iadd, 1) := by decide +kernel
theorem dX7_startSearch_34 : decode cX7_startSearch 34 = .ok (.iaload, 1) := by decide +kernel
theorem dX7_startSearch_35 : decode cX7_startSearch 35 = .ok (.iload_n 2, 1) := by decide +kernel
theorem dX7_startSearch_36 : decode cX7_startSearch 36 = .ok (.iand, 1) := by decide +kernel
theorem dX7_startSearch_37 : decode cX7_startSearch 37 = .ok (.goto 4, 3) := by decide +kernel
theorem dX7_startSearch_40 : decode cX7_startSearch 40 = .ok (.iconst 0, 1) := by decide +kernel
theorem dX7_startSearch_41 : decode cX7_startSearch 41 = .ok (.iastore, 1) := by decide +kernel
theorem dX7_startSearch_42 : decode cX7_startSearch 42 = .ok (.iinc 3 1, 3) := by decide +kernel
theorem dX7_startSearch_45 : decode cX7_startSearch 45 = .ok (.goto (-43), 3) := by decide +kernel
theorem dX7_startSearch_48 : decode cX7_startSearch 48 = .ok (.return_, 1) := by decide +kernel
theorem dX7_tightest_0 : decode cX7_tightest 0 = .ok (.iconst (-1), 1) := by decide +kernel
theorem dX7_tightest_1 : decode cX7_tightest 1 = .ok (.istore_n 3, 1) := by decide +kernel
theorem dX7_tightest_2 : decode cX7_tightest 2 = .ok (.iconst 0, 1) := by decide +kernel
theorem dX7_tightest_3 : decode cX7_tightest 3 = .ok (.istore 4, 2) := by decide +kernel
theorem dX7_tightest_5 : decode cX7_tightest 5 = .ok (.iload 4, 2) := by decide +kernel
theorem dX7_tightest_7 : decode cX7_tightest 7 = .ok (.aload_n 0, 1) := by decide +kernel
theorem dX7_tightest_8 : decode cX7_tightest 8 = .ok (.getfield 9, 3) := by decide +kernel
theorem dX7_tightest_11 : decode cX7_tightest 11 = .ok (.iconst 0, 1) := by decide +kernel
theorem dX7_tightest_12 : decode cX7_tightest 12 = .ok (.iaload, 1) := by decide +kernel
theorem dX7_tightest_13 : decode cX7_tightest 13 = .ok (.if_icmp .ge 51, 3) := by decide +kernel
theorem dX7_tightest_16 : decode cX7_tightest 16 = .ok (.iload_n 2, 1) := by decide +kernel
theorem dX7_tightest_17 : decode cX7_tightest 17 = .ok (.iload 4, 2) := by decide +kernel
theorem dX7_tightest_19 : decode cX7_tightest 19 = .ok (.invokestatic 93, 3) := by decide +kernel
theorem dX7_tightest_22 : decode cX7_tightest 22 = .ok (.ifCond .eq 36, 3) := by decide +kernel
theorem dX7_tightest_25 : decode cX7_tightest 25 = .ok (.iload_n 3, 1) := by decide +kernel
theorem dX7_tightest_26 : decode cX7_tightest 26 = .ok (.ifCond .lt 29, 3) := by decide +kernel
theorem dX7_tightest_29 : decode cX7_tightest 29 = .ok (.aload_n 0, 1) := by decide +kernel
theorem dX7_tightest_30 : decode cX7_tightest 30 = .ok (.getfield 34, 3) := by decide +kernel
theorem dX7_tightest_33 : decode cX7_tightest 33 = .ok (.iload_n 1, 1) := by decide +kernel
theorem dX7_tightest_34 : decode cX7_tightest 34 = .ok (.aaload, 1) := by decide +kernel
theorem dX7_tightest_35 : decode cX7_tightest 35 = .ok (.iload 4, 2) := by decide +kernel
theorem dX7_tightest_37 : decode cX7_tightest 37 = .ok (.iaload, 1) := by decide +kernel
theorem dX7_tightest_38 : decode cX7_tightest 38 = .ok (.invokestatic 109, 3) := by decide +kernel
theorem dX7_tightest_41 : decode cX7_tightest 41 = .ok (.aload_n 0, 1) := by decide +kernel
theorem dX7_tightest_42 : decode cX7_tightest 42 = .ok (.getfield 34, 3) := by decide +kernel
theorem dX7_tightest_45 : decode cX7_tightest 45 = .ok (.iload_n 1, 1) := by decide +kernel
theorem dX7_tightest_46 : decode cX7_tightest 46 = .ok (.aaload, 1) := by decide +kernel
theorem dX7_tightest_47 : decode cX7_tightest 47 = .ok (.iload_n 3, 1) := by decide +kernel
theorem dX7_tightest_48 : decode cX7_tightest 48 = .ok (.iaload, 1) := by decide +kernel
theorem dX7_tightest_49 : decode cX7_tightest 49 = .ok (.invokestatic 109, 3) := by decide +kernel
theorem dX7_tightest_52 : decode cX7_tightest 52 = .ok (.if_icmp .ge 6, 3) := by decide +kernel
theorem dX7_tightest_55 : decode cX7_tightest 55 = .ok (.iload 4, 2) := by decide +kernel
theorem dX7_tightest_57 : decode cX7_tightest 57 = .ok (.istore_n 3, 1) := by decide +kernel
theorem dX7_tightest_58 : decode cX7_tightest 58 = .ok (.iinc 4 1, 3) := by decide +kernel
theorem dX7_tightest_61 : decode cX7_tightest 61 = .ok (.goto (-56), 3) := by decide +kernel
theorem dX7_tightest_64 : decode cX7_tightest 64 = .ok (.iload_n 3, 1) := by decide +kernel
theorem dX7_tightest_65 : decode cX7_tightest 65 = .ok (.ireturn, 1) := by decide +kernel
theorem dX7_search_0 : decode cX7_search 0 = .ok (.iload_n 2, 1) := by decide +kernel
theorem dX7_search_1 : decode cX7_search 1 = .ok (.ifCond .ne 14, 3) := by decide +kernel
theorem dX7_search_4 : decode cX7_search 4 = .ok (.aload_n 0, 1) := by decide +kernel
theorem dX7_search_5 : decode cX7_search 5 = .ok (.dup, 1) := by decide +kernel
theorem dX7_search_6 : decode cX7_search 6 = .ok (.getfield 130, 3) := by decide +kernel
theorem dX7_search_9 : decode cX7_search 9 = .ok (.iconst 1, 1) := by decide +kernel
theorem dX7_search_10 : decode cX7_search 10 = .ok (.iadd, 1) := by decide +kernel
theorem dX7_search_11 : decode cX7_search 11 = .ok (.putfield 130, 3) := by decide +kernel
theorem dX7_search_14 : decode cX7_search 14 = .ok (.return_, 1) := by decide +kernel
theorem dX7_search_15 : decode cX7_search 15 = .ok (.aload_n 0, 1) := by decide +kernel
theorem dX7_search_16 : decode cX7_search 16 = .ok (.iload_n 1, 1) := by decide +kernel
theorem dX7_search_17 : decode cX7_search 17 = .ok (.iload_n 2, 1) := by decide +kernel
theorem dX7_search_18 : decode cX7_search 18 = .ok (.invokevirtual 133, 3) := by decide +kernel
theorem dX7_search_21 : decode cX7_search 21 = .ok (.istore 4, 2) := by decide +kernel
theorem dX7_search_23 : decode cX7_search 23 = .ok (.iconst 0, 1) := by decide +kernel
theorem dX7_search_24 : decode cX7_search 24 = .ok (.istore 5, 2) := by decide +kernel
theorem dX7_search_26 : decode cX7_search 26 = .ok (.iload 5, 2) := by decide +kernel
theorem dX7_search_28 : decode cX7_search 28 = .ok (.bipush 8, 2) := by decide +kernel
theorem dX7_search_30 : decode cX7_search 30 = .ok (.if_icmp .ge 172, 3) := by decide +kernel
theorem dX7_search_33 : decode cX7_search 33 = .ok (.aload_n 0, 1) := by decide +kernel
theorem dX7_search_34 : decode cX7_search 34 = .ok (.getfield 130, 3) := by decide +kernel
theorem dX7_search_37 : decode cX7_search 37 = .ok (.iload_n 3, 1) := by decide +kernel
theorem dX7_search_38 : decode cX7_search 38 = .ok (.if_icmp .ge 164, 3) := by decide +kernel
theorem dX7_search_41 : decode cX7_search 41 = .ok (.aload_n 0, 1) := by decide +kernel
theorem dX7_search_42 : decode cX7_search 42 = .ok (.getfield 34, 3) := by decide +kernel
theorem dX7_search_45 : decode cX7_search 45 = .ok (.iload_n 1, 1) := by decide +kernel
theorem dX7_search_46 : decode cX7_search 46 = .ok (.aaload, 1) := by decide +kernel
theorem dX7_search_47 : decode cX7_search 47 = .ok (.iload 4, 2) := by decide +kernel
theorem dX7_search_49 : decode cX7_search 49 = .ok (.iaload, 1) := by decide +kernel
theorem dX7_search_50 : decode cX7_search 50 = .ok (.iload 5, 2) := by decide +kernel
theorem dX7_search_52 : decode cX7_search 52 = .ok (.invokestatic 93, 3) := by decide +kernel
theorem dX7_search_55 : decode cX7_search 55 = .ok (.ifCond .eq 141, 3) := by decide +kernel
theorem dX7_search_58 : decode cX7_search 58 = .ok (.iload 5, 2) := by decide +kernel
theorem dX7_search_60 : decode cX7_search 60 = .ok (.ifCond .le 12, 3) := by decide +kernel
theorem dX7_search_63 : decode cX7_search 63 = .ok (.iconst 1, 1) := by decide +kernel
theorem dX7_search_64 : decode cX7_search 64 = .ok (.iload 5, 2) := by decide +kernel
theorem dX7_search_66 : decode cX7_search 66 = .ok (.iconst 1, 1) := by decide +kernel
theorem dX7_search_67 : decode cX7_search 67 = .ok (.isub, 1) := by decide +kernel
theorem dX7_search_68 : decode cX7_search 68 = .ok (.ishl, 1) := by decide +kernel
theorem dX7_search_69 : decode cX7_search 69 = .ok (.goto 4, 3) := by decide +kernel
theorem dX7_search_72 : decode cX7_search 72 = .ok (.iconst 0, 1) := by decide +kernel
theorem dX7_search_73 : decode cX7_search 73 = .ok (.iconst 1, 1) := by decide +kernel
theorem dX7_search_74 : decode cX7_search 74 = .ok (.iload 5, 2) := by decide +kernel
theorem dX7_search_76 : decode cX7_search 76 = .ok (.iconst 1, 1) := by decide +kernel
theorem dX7_search_77 : decode cX7_search 77 = .ok (.iadd, 1) := by decide +kernel
theorem dX7_search_78 : decode cX7_search 78 = .ok (.ishl, 1) := by decide +kernel
theorem dX7_search_79 : decode cX7_search 79 = .ok (.ior, 1) := by decide +kernel
theorem dX7_search_80 : decode cX7_search 80 = .ok (.istore 6, 2) := by decide +kernel
theorem dX7_search_82 : decode cX7_search 82 = .ok (.iconst 0, 1) := by decide +kernel
theorem dX7_search_83 : decode cX7_search 83 = .ok (.istore 7, 2) := by decide +kernel
theorem dX7_search_85 : decode cX7_search 85 = .ok (.iload 7, 2) := by decide +kernel
theorem dX7_search_87 : decode cX7_search 87 = .ok (.aload_n 0, 1) := by decide +kernel
theorem dX7_search_88 : decode cX7_search 88 = .ok (.getfield 9, 3) := by decide +kernel
theorem dX7_search_91 : decode cX7_search 91 = .ok (.iconst 0, 1) := by decide +kernel
theorem dX7_search_92 : decode cX7_search 92 = .ok (.iaload, 1) := by decide +kernel
theorem dX7_search_93 : decode cX7_search 93 = .ok (.if_icmp .ge 87, 3) := by decide +kernel
theorem dX7_search_96 : decode cX7_search 96 = .ok (.aload_n 0, 1) := by decide +kernel
theorem dX7_search_97 : decode cX7_search 97 = .ok (.getfield 9, 3) := by decide +kernel
theorem dX7_search_100 : decode cX7_search 100 = .ok (.bipush 64, 2) := by decide +kernel
theorem dX7_search_102 : decode cX7_search 102 = .ok (.iload 4, 2) := by decide +kernel
theorem dX7_search_104 : decode cX7_search 104 = .ok (.iadd, 1) := by decide +kernel
theorem dX7_search_105 : decode cX7_search 105 = .ok (.iaload, 1) := by decide +kernel
theorem dX7_search_106 : decode cX7_search 106 = .ok (.iload 7, 2) := by decide +kernel
theorem dX7_search_108 : decode cX7_search 108 = .ok (.invokestatic 93, 3) := by decide +kernel
theorem dX7_search_111 : decode cX7_search 111 = .ok (.ifCond .eq 10, 3) := by decide +kernel
theorem dX7_search_114 : decode cX7_search 114 = .ok (.iconst 1, 1) := by decide +kernel
theorem dX7_search_115 : decode cX7_search 115 = .ok (.iload 5, 2) := by decide +kernel
theorem dX7_search_117 : decode cX7_search 117 = .ok (.ishl, 1) := by decide +kernel
theorem dX7_search_118 : decode cX7_search 118 = .ok (.goto 4, 3) := by decide +kernel
theorem dX7_search_121 : decode cX7_search 121 = .ok (.iconst 0, 1) := by decide +kernel
theorem dX7_search_122 : decode cX7_search 122 = .ok (.aload_n 0, 1) := by decide +kernel
theorem dX7_search_123 : decode cX7_search 123 = .ok (.getfield 9, 3) := by decide +kernel
theorem dX7_search_126 : decode cX7_search 126 = .ok (.bipush 76, 2) := by decide +kernel
theorem dX7_search_128 : decode cX7_search 128 = .ok (.iload 4, 2) := by decide +kernel
theorem dX7_search_130 : decode cX7_search 130 = .ok (.iadd, 1) := by decide +kernel
theorem dX7_search_131 : decode cX7_search 131 = .ok (.iaload, 1) := by decide +kernel
theorem dX7_search_132 : decode cX7_search 132 = .ok (.iload 7, 2) := by decide +kernel
theorem dX7_search_134 : decode cX7_search 134 = .ok (.invokestatic 93, 3) := by decide +kernel
theorem dX7_search_137 : decode cX7_search 137 = .ok (.ifCond .eq 8, 3) := by decide +kernel
theorem dX7_search_140 : decode cX7_search 140 = .ok (.iload 6, 2) := by decide +kernel
theorem dX7_search_142 : decode cX7_search 142 = .ok (.goto 4, 3) := by decide +kernel
theorem dX7_search_145 : decode cX7_search 145 = .ok (.iconst 0, 1) := by decide +kernel
theorem dX7_search_146 : decode cX7_search 146 = .ok (.ior, 1) := by decide +kernel
theorem dX7_search_147 : decode cX7_search 147 = .ok (.istore 8, 2) := by decide +kernel
theorem dX7_search_149 : decode cX7_search 149 = .ok (.aload_n 0, 1) := by decide +kernel
theorem dX7_search_150 : decode cX7_search 150 = .ok (.getfield 34, 3) := by decide +kernel
theorem dX7_search_153 : decode cX7_search 153 = .ok (.iload_n 1, 1) := by decide +kernel
theorem dX7_search_154 : decode cX7_search 154 = .ok (.iconst 1, 1) := by decide +kernel
theorem dX7_search_155 : decode cX7_search 155 = .ok (.iadd, 1) := by decide +kernel
theorem dX7_search_156 : decode cX7_search 156 = .ok (.aaload, 1) := by decide +kernel
theorem dX7_search_157 : decode cX7_search 157 = .ok (.iload 7, 2) := by decide +kernel
theorem dX7_search_159 : decode cX7_search 159 = .ok (.aload_n 0, 1) := by decide +kernel
theorem dX7_search_160 : decode cX7_search 160 = .ok (.getfield 34, 3) := by decide +kernel
theorem dX7_search_163 : decode cX7_search 163 = .ok (.iload_n 1, 1) := by decide +kernel
theorem dX7_search_164 : decode cX7_search 164 = .ok (.aaload, 1) := by decide +kernel
theorem dX7_search_165 : decode cX7_search 165 = .ok (.iload 7, 2) := by decide +kernel
theorem dX7_search_167 : decode cX7_search 167 = .ok (.iaload, 1) := by decide +kernel
theorem dX7_search_168 : decode cX7_search 168 = .ok (.iload 8, 2) := by decide +kernel
theorem dX7_search_170 : decode cX7_search 170 = .ok (.iconst (-1), 1) := by decide +kernel
theorem dX7_search_171 : decode cX7_search 171 = .ok (.ixor, 1) := by decide +kernel
theorem dX7_search_172 : decode cX7_search 172 = .ok (.iand, 1) := by decide +kernel
theorem dX7_search_173 : decode cX7_search 173 = .ok (.iastore, 1) := by decide +kernel
theorem dX7_search_174 : decode cX7_search 174 = .ok (.iinc 7 1, 3) := by decide +kernel
theorem dX7_search_177 : decode cX7_search 177 = .ok (.goto (-92), 3) := by decide +kernel
theorem dX7_search_180 : decode cX7_search 180 = .ok (.aload_n 0, 1) := by decide +kernel
theorem dX7_search_181 : decode cX7_search 181 = .ok (.iload_n 1, 1) := by decide +kernel
theorem dX7_search_182 : decode cX7_search 182 = .ok (.iconst 1, 1) := by decide +kernel
theorem dX7_search_183 : decode cX7_search 183 = .ok (.iadd, 1) := by decide +kernel
theorem dX7_search_184 : decode cX7_search 184 = .ok (.iload_n 2, 1) := by decide +kernel
theorem dX7_search_185 : decode cX7_search 185 = .ok (.iconst 1, 1) := by decide +kernel
theorem dX7_search_186 : decode cX7_search 186 = .ok (.iload 4, 2) := by decide +kernel
theorem dX7_search_188 : decode cX7_search 188 = .ok (.ishl, 1) := by decide +kernel
theorem dX7_search_189 : decode cX7_search 189 = .ok (.iconst (-1), 1) := by decide +kernel
theorem dX7_search_190 : decode cX7_search 190 = .ok (.ixor, 1) := by decide +kernel
theorem dX7_search_191 : decode cX7_search 191 = .ok (.iand, 1) := by decide +kernel
theorem dX7_search_192 : decode cX7_search 192 = .ok (.iload_n 3, 1) := by decide +kernel
theorem dX7_search_193 : decode cX7_search 193 = .ok (.invokevirtual 136, 3) := by decide +kernel
theorem dX7_search_196 : decode cX7_search 196 = .ok (.iinc 5 1, 3) := by decide +kernel
theorem dX7_search_199 : decode cX7_search 199 = .ok (.goto (-173), 3) := by decide +kernel
theorem dX7_search_202 : decode cX7_search 202 = .ok (.return_, 1) := by decide +kernel
theorem dX7_countUpTo_0 : decode cX7_countUpTo 0 = .ok (.aload_n 0, 1) := by decide +kernel
theorem dX7_countUpTo_1 : decode cX7_countUpTo 1 = .ok (.iconst 0, 1) := by decide +kernel
theorem dX7_countUpTo_2 : decode cX7_countUpTo 2 = .ok (.putfield 130, 3) := by decide +kernel
theorem dX7_countUpTo_5 : decode cX7_countUpTo 5 = .ok (.aload_n 0, 1) := by decide +kernel
theorem dX7_countUpTo_6 : decode cX7_countUpTo 6 = .ok (.iconst 0, 1) := by decide +kernel
theorem dX7_countUpTo_7 : decode cX7_countUpTo 7 = .ok (.iload_n 1, 1) := by decide +kernel
theorem dX7_countUpTo_8 : decode cX7_countUpTo 8 = .ok (.iload_n 2, 1) := by decide +kernel
theorem dX7_countUpTo_9 : decode cX7_countUpTo 9 = .ok (.invokevirtual 136, 3) := by decide +kernel
theorem dX7_countUpTo_12 : decode cX7_countUpTo 12 = .ok (.aload_n 0, 1) := by decide +kernel
theorem dX7_countUpTo_13 : decode cX7_countUpTo 13 = .ok (.getfield 130, 3) := by decide +kernel
theorem dX7_countUpTo_16 : decode cX7_countUpTo 16 = .ok (.ireturn, 1) := by decide +kernel
theorem dX7_isPossibleWith_0 : decode cX7_isPossibleWith 0 = .ok (.aload_n 0, 1) := by decide +kernel
theorem dX7_isPossibleWith_1 : decode cX7_isPossibleWith 1 = .ok (.iload_n 1, 1) := by decide +kernel
theorem dX7_isPossibleWith_2 : decode cX7_isPossibleWith 2 = .ok (.iload_n 2, 1) := by decide +kernel
theorem dX7_isPossibleWith_3 : decode cX7_isPossibleWith 3 = .ok (.invokevirtual 140, 3) := by decide +kernel
theorem dX7_isPossibleWith_6 : decode cX7_isPossibleWith 6 = .ok (.aload_n 0, 1) := by decide +kernel
theorem dX7_isPossibleWith_7 : decode cX7_isPossibleWith 7 = .ok (.iload_n 1, 1) := by decide +kernel
theorem dX7_isPossibleWith_8 : decode cX7_isPossibleWith 8 = .ok (.iconst 1, 1) := by decide +kernel
theorem dX7_isPossibleWith_9 : decode cX7_isPossibleWith 9 = .ok (.invokevirtual 144, 3) := by decide +kernel
theorem dX7_isPossibleWith_12 : decode cX7_isPossibleWith 12 = .ok (.ifCond .le 7, 3) := by decide +kernel
theorem dX7_isPossibleWith_15 : decode cX7_isPossibleWith 15 = .ok (.iconst 1, 1) := by decide +kernel
theorem dX7_isPossibleWith_16 : decode cX7_isPossibleWith 16 = .ok (.goto 4, 3) := by decide +kernel
theorem dX7_isPossibleWith_19 : decode cX7_isPossibleWith 19 = .ok (.iconst 0, 1) := by decide +kernel
theorem dX7_isPossibleWith_20 : decode cX7_isPossibleWith 20 = .ok (.ireturn, 1) := by decide +kernel
theorem dX7_isPossible_0 : decode cX7_isPossible 0 = .ok (.aload_n 0, 1) := by decide +kernel
theorem dX7_isPossible_1 : decode cX7_isPossible 1 = .ok (.iload_n 1, 1) := by decide +kernel
theorem dX7_isPossible_2 : decode cX7_isPossible 2 = .ok (.aload_n 0, 1) := by decide +kernel
theorem dX7_isPossible_3 : decode cX7_isPossible 3 = .ok (.getfield 9, 3) := by decide +kernel
theorem dX7_isPossible_6 : decode cX7_isPossible 6 = .ok (.iconst 1, 1) := by decide +kernel
theorem dX7_isPossible_7 : decode cX7_isPossible 7 = .ok (.iaload, 1) := by decide +kernel
theorem dX7_isPossible_8 : decode cX7_isPossible 8 = .ok (.invokevirtual 147, 3) := by decide +kernel
theorem dX7_isPossible_11 : decode cX7_isPossible 11 = .ok (.ireturn, 1) := by decide +kernel
theorem dX7_areStations_0 : decode cX7_areStations 0 = .ok (.iload_n 1, 1) := by decide +kernel
theorem dX7_areStations_1 : decode cX7_areStations 1 = .ok (.iconst 1, 1) := by decide +kernel
theorem dX7_areStations_2 : decode cX7_areStations 2 = .ok (.aload_n 0, 1) := by decide +kernel
theorem dX7_areStations_3 : decode cX7_areStations 3 = .ok (.getfield 9, 3) := by decide +kernel
theorem dX7_areStations_6 : decode cX7_areStations 6 = .ok (.iconst 0, 1) := by decide +kernel
theorem dX7_areStations_7 : decode cX7_areStations 7 = .ok (.iaload, 1) := by decide +kernel
theorem dX7_areStations_8 : decode cX7_areStations 8 = .ok (.ishl, 1) := by decide +kernel
theorem dX7_areStations_9 : decode cX7_areStations 9 = .ok (.iconst 1, 1) := by decide +kernel
theorem dX7_areStations_10 : decode cX7_areStations 10 = .ok (.isub, 1) := by decide +kernel
theorem dX7_areStations_11 : decode cX7_areStations 11 = .ok (.iconst (-1), 1) := by decide +kernel
theorem dX7_areStations_12 : decode cX7_areStations 12 = .ok (.ixor, 1) := by decide +kernel
theorem dX7_areStations_13 : decode cX7_areStations 13 = .ok (.iand, 1) := by decide +kernel
theorem dX7_areStations_14 : decode cX7_areStations 14 = .ok (.ifCond .ne 7, 3) := by decide +kernel
theorem dX7_areStations_17 : decode cX7_areStations 17 = .ok (.iconst 1, 1) := by decide +kernel
theorem dX7_areStations_18 : decode cX7_areStations 18 = .ok (.goto 4, 3) := by decide +kernel
theorem dX7_areStations_21 : decode cX7_areStations 21 = .ok (.iconst 0, 1) := by decide +kernel
theorem dX7_areStations_22 : decode cX7_areStations 22 = .ok (.ireturn, 1) := by decide +kernel
theorem dX7_isFeasible_0 : decode cX7_isFeasible 0 = .ok (.aload_n 0, 1) := by decide +kernel
theorem dX7_isFeasible_1 : decode cX7_isFeasible 1 = .ok (.iconst 1, 1) := by decide +kernel
theorem dX7_isFeasible_2 : decode cX7_isFeasible 2 = .ok (.aload_n 0, 1) := by decide +kernel
theorem dX7_isFeasible_3 : decode cX7_isFeasible 3 = .ok (.iload_n 1, 1) := by decide +kernel
theorem dX7_isFeasible_4 : decode cX7_isFeasible 4 = .ok (.invokevirtual 150, 3) := by decide +kernel
theorem dX7_isFeasible_7 : decode cX7_isFeasible 7 = .ok (.ifCond .ne 7, 3) := by decide +kernel
theorem dX7_isFeasible_10 : decode cX7_isFeasible 10 = .ok (.iconst 1, 1) := by decide +kernel
theorem dX7_isFeasible_11 : decode cX7_isFeasible 11 = .ok (.goto 4, 3) := by decide +kernel
theorem dX7_isFeasible_14 : decode cX7_isFeasible 14 = .ok (.iconst 0, 1) := by decide +kernel
theorem dX7_isFeasible_15 : decode cX7_isFeasible 15 = .ok (.invokevirtual 54, 3) := by decide +kernel
theorem dX7_isFeasible_18 : decode cX7_isFeasible 18 = .ok (.ifCond .ne 15, 3) := by decide +kernel
theorem dX7_isFeasible_21 : decode cX7_isFeasible 21 = .ok (.aload_n 0, 1) := by decide +kernel
theorem dX7_isFeasible_22 : decode cX7_isFeasible 22 = .ok (.iload_n 1, 1) := by decide +kernel
theorem dX7_isFeasible_23 : decode cX7_isFeasible 23 = .ok (.invokevirtual 153, 3) := by decide +kernel
theorem dX7_isFeasible_26 : decode cX7_isFeasible 26 = .ok (.ifCond .eq 7, 3) := by decide +kernel
theorem dX7_isFeasible_29 : decode cX7_isFeasible 29 = .ok (.iconst 1, 1) := by decide +kernel
theorem dX7_isFeasible_30 : decode cX7_isFeasible 30 = .ok (.goto 4, 3) := by decide +kernel
theorem dX7_isFeasible_33 : decode cX7_isFeasible 33 = .ok (.iconst 0, 1) := by decide +kernel
theorem dX7_isFeasible_34 : decode cX7_isFeasible 34 = .ok (.ireturn, 1) := by decide +kernel
theorem dX7_isPossibleFixed_0 : decode cX7_isPossibleFixed 0 = .ok (.aload_n 0, 1) := by decide +kernel
theorem dX7_isPossibleFixed_1 : decode cX7_isPossibleFixed 1 = .ok (.iload_n 1, 1) := by decide +kernel
theorem dX7_isPossibleFixed_2 : decode cX7_isPossibleFixed 2 = .ok (.aload_n 0, 1) := by decide +kernel
theorem dX7_isPossibleFixed_3 : decode cX7_isPossibleFixed 3 = .ok (.getfield 9, 3) := by decide +kernel
theorem dX7_isPossibleFixed_6 : decode cX7_isPossibleFixed 6 = .ok (.iconst 1, 1) := by decide +kernel
theorem dX7_isPossibleFixed_7 : decode cX7_isPossibleFixed 7 = .ok (.iaload, 1) := by decide +kernel
theorem dX7_isPossibleFixed_8 : decode cX7_isPossibleFixed 8 = .ok (.invokevirtual 140, 3) := by decide +kernel
theorem dX7_isPossibleFixed_11 : decode cX7_isPossibleFixed 11 = .ok (.iconst 0, 1) := by decide +kernel
theorem dX7_isPossibleFixed_12 : decode cX7_isPossibleFixed 12 = .ok (.istore_n 2, 1) := by decide +kernel
theorem dX7_isPossibleFixed_13 : decode cX7_isPossibleFixed 13 = .ok (.iload_n 2, 1) := by decide +kernel
theorem dX7_isPossibleFixed_14 : decode cX7_isPossibleFixed 14 = .ok (.aload_n 0, 1) := by decide +kernel
theorem dX7_isPossibleFixed_15 : decode cX7_isPossibleFixed 15 = .ok (.getfield 9, 3) := by decide +kernel
theorem dX7_isPossibleFixed_18 : decode cX7_isPossibleFixed 18 = .ok (.iconst 0, 1) := by decide +kernel
theorem dX7_isPossibleFixed_19 : decode cX7_isPossibleFixed 19 = .ok (.iaload, 1) := by decide +kernel
theorem dX7_isPossibleFixed_20 : decode cX7_isPossibleFixed 20 = .ok (.if_icmp .ge 49, 3) := by decide +kernel
theorem dX7_isPossibleFixed_23 : decode cX7_isPossibleFixed 23 = .ok (.aload_n 0, 1) := by decide +kernel
theorem dX7_isPossibleFixed_24 : decode cX7_isPossibleFixed 24 = .ok (.getfield 34, 3) := by decide +kernel
theorem dX7_isPossibleFixed_27 : decode cX7_isPossibleFixed 27 = .ok (.iconst 0, 1) := by decide +kernel
theorem dX7_isPossibleFixed_28 : decode cX7_isPossibleFixed 28 = .ok (.aaload, 1) := by decide +kernel
theorem dX7_isPossibleFixed_29 : decode cX7_isPossibleFixed 29 = .ok (.iload_n 2, 1) := by decide +kernel
theorem dX7_isPossibleFixed_30 : decode cX7_isPossibleFixed 30 = .ok (.dup2, 1) := by decide +kernel
theorem dX7_isPossibleFixed_31 : decode cX7_isPossibleFixed 31 = .ok (.iaload, 1) := by decide +kernel
theorem dX7_isPossibleFixed_32 : decode cX7_isPossibleFixed 32 = .ok (.iload_n 1, 1) := by decide +kernel
theorem dX7_isPossibleFixed_33 : decode cX7_isPossibleFixed 33 = .ok (.iload_n 2, 1) := by decide +kernel
theorem dX7_isPossibleFixed_34 : decode cX7_isPossibleFixed 34 = .ok (.invokestatic 93, 3) := by decide +kernel
theorem dX7_isPossibleFixed_37 : decode cX7_isPossibleFixed 37 = .ok (.ifCond .eq 23, 3) := by decide +kernel
theorem dX7_isPossibleFixed_40 : decode cX7_isPossibleFixed 40 = .ok (.aload_n 0, 1) := by decide +kernel
theorem dX7_isPossibleFixed_41 : decode cX7_isPossibleFixed 41 = .ok (.getfield 37, 3) := by decide +kernel
theorem dX7_isPossibleFixed_44 : decode cX7_isPossibleFixed 44 = .ok (.iload_n 2, 1) := by decide +kernel
theorem dX7_isPossibleFixed_45 : decode cX7_isPossibleFixed 45 = .ok (.iaload, 1) := by decide +kernel
theorem dX7_isPossibleFixed_46 : decode cX7_isPossibleFixed 46 = .ok (.ifCond .lt 14, 3) := by decide +kernel
theorem dX7_isPossibleFixed_49 : decode cX7_isPossibleFixed 49 = .ok (.iconst 1, 1) := by decide +kernel
theorem dX7_isPossibleFixed_50 : decode cX7_isPossibleFixed 50 = .ok (.aload_n 0, 1) := by decide +kernel
theorem dX7_isPossibleFixed_51 : decode cX7_isPossibleFixed 51 = .ok (.getfield 37, 3) := by decide +kernel
theorem dX7_isPossibleFixed_54 : decode cX7_isPossibleFixed 54 = .ok (.iload_n 2, 1) := by decide +kernel
theorem dX7_isPossibleFixed_55 : decode cX7_isPossibleFixed 55 = .ok (.iaload, 1) := by decide +kernel
theorem dX7_isPossibleFixed_56 : decode cX7_isPossibleFixed 56 = .ok (.ishl, 1) := by decide +kernel
theorem dX7_isPossibleFixed_57 : decode cX7_isPossibleFixed 57 = .ok (.goto 4, 3) := by decide +kernel
theorem dX7_isPossibleFixed_60 : decode cX7_isPossibleFixed 60 = .ok (.iconst (-1), 1) := by decide +kernel
theorem dX7_isPossibleFixed_61 : decode cX7_isPossibleFixed 61 = .ok (.iand, 1) := by decide +kernel
theorem dX7_isPossibleFixed_62 : decode cX7_isPossibleFixed 62 = .ok (.iastore, 1) := by decide +kernel
theorem dX7_isPossibleFixed_63 : decode cX7_isPossibleFixed 63 = .ok (.iinc 2 1, 3) := by decide +kernel
theorem dX7_isPossibleFixed_66 : decode cX7_isPossibleFixed 66 = .ok (.goto (-53), 3) := by decide +kernel
theorem dX7_isPossibleFixed_69 : decode cX7_isPossibleFixed 69 = .ok (.aload_n 0, 1) := by decide +kernel
theorem dX7_isPossibleFixed_70 : decode cX7_isPossibleFixed 70 = .ok (.iload_n 1, 1) := by decide +kernel
theorem dX7_isPossibleFixed_71 : decode cX7_isPossibleFixed 71 = .ok (.iconst 1, 1) := by decide +kernel
theorem dX7_isPossibleFixed_72 : decode cX7_isPossibleFixed 72 = .ok (.invokevirtual 144, 3) := by decide +kernel
theorem dX7_isPossibleFixed_75 : decode cX7_isPossibleFixed 75 = .ok (.ifCond .le 7, 3) := by decide +kernel
theorem dX7_isPossibleFixed_78 : decode cX7_isPossibleFixed 78 = .ok (.iconst 1, 1) := by decide +kernel
theorem dX7_isPossibleFixed_79 : decode cX7_isPossibleFixed 79 = .ok (.goto 4, 3) := by decide +kernel
theorem dX7_isPossibleFixed_82 : decode cX7_isPossibleFixed 82 = .ok (.iconst 0, 1) := by decide +kernel
theorem dX7_isPossibleFixed_83 : decode cX7_isPossibleFixed 83 = .ok (.ireturn, 1) := by decide +kernel
theorem dX7_fixNone_0 : decode cX7_fixNone 0 = .ok (.iconst 0, 1) := by decide +kernel
theorem dX7_fixNone_1 : decode cX7_fixNone 1 = .ok (.istore_n 1, 1) := by decide +kernel
theorem dX7_fixNone_2 : decode cX7_fixNone 2 = .ok (.iload_n 1, 1) := by decide +kernel
theorem dX7_fixNone_3 : decode cX7_fixNone 3 = .ok (.bipush 12, 2) := by decide +kernel
theorem dX7_fixNone_5 : decode cX7_fixNone 5 = .ok (.if_icmp .ge 16, 3) := by decide +kernel
theorem dX7_fixNone_8 : decode cX7_fixNone 8 = .ok (.aload_n 0, 1) := by decide +kernel
theorem dX7_fixNone_9 : decode cX7_fixNone 9 = .ok (.getfield 37, 3) := by decide +kernel
theorem dX7_fixNone_12 : decode cX7_fixNone 12 = .ok (.iload_n 1, 1) := by decide +kernel
theorem dX7_fixNone_13 : decode cX7_fixNone 13 = .ok (.iconst (-1), 1) := by decide +kernel
theorem dX7_fixNone_14 : decode cX7_fixNone 14 = .ok (.iastore, 1) := by decide +kernel
theorem dX7_fixNone_15 : decode cX7_fixNone 15 = .ok (.iinc 1 1, 3) := by decide +kernel
theorem dX7_fixNone_18 : decode cX7_fixNone 18 = .ok (.goto (-16), 3) := by decide +kernel
theorem dX7_fixNone_21 : decode cX7_fixNone 21 = .ok (.return_, 1) := by decide +kernel
theorem dX7_keepFirst_0 : decode cX7_keepFirst 0 = .ok (.iconst 0, 1) := by decide +kernel
theorem dX7_keepFirst_1 : decode cX7_keepFirst 1 = .ok (.istore_n 2, 1) := by decide +kernel
theorem dX7_keepFirst_2 : decode cX7_keepFirst 2 = .ok (.iload_n 2, 1) := by decide +kernel
theorem dX7_keepFirst_3 : decode cX7_keepFirst 3 = .ok (.aload_n 0, 1) := by decide +kernel
theorem dX7_keepFirst_4 : decode cX7_keepFirst 4 = .ok (.getfield 9, 3) := by decide +kernel
theorem dX7_keepFirst_7 : decode cX7_keepFirst 7 = .ok (.iconst 0, 1) := by decide +kernel
theorem dX7_keepFirst_8 : decode cX7_keepFirst 8 = .ok (.iaload, 1) := by decide +kernel
theorem dX7_keepFirst_9 : decode cX7_keepFirst 9 = .ok (.if_icmp .ge 54, 3) := by decide +kernel
theorem dX7_keepFirst_12 : decode cX7_keepFirst 12 = .ok (.iload_n 1, 1) := by decide +kernel
theorem dX7_keepFirst_13 : decode cX7_keepFirst 13 = .ok (.iload_n 2, 1) := by decide +kernel
theorem dX7_keepFirst_14 : decode cX7_keepFirst 14 = .ok (.invokestatic 93, 3) := by decide +kernel
theorem dX7_keepFirst_17 : decode cX7_keepFirst 17 = .ok (.ifCond .eq 40, 3) := by decide +kernel
theorem dX7_keepFirst_20 : decode cX7_keepFirst 20 = .ok (.aload_n 0, 1) := by decide +kernel
theorem dX7_keepFirst_21 : decode cX7_keepFirst 21 = .ok (.getfield 37, 3) := by decide +kernel
theorem dX7_keepFirst_24 : decode cX7_keepFirst 24 = .ok (.iload_n 2, 1) := by decide +kernel
theorem dX7_keepFirst_25 : decode cX7_keepFirst 25 = .ok (.iaload, 1) := by decide +kernel
theorem dX7_keepFirst_26 : decode cX7_keepFirst 26 = .ok (.ifCond .ge 31, 3) := by decide +kernel
theorem dX7_keepFirst_29 : decode cX7_keepFirst 29 = .ok (.aload_n 0, 1) := by decide +kernel
theorem dX7_keepFirst_30 : decode cX7_keepFirst 30 = .ok (.getfield 37, 3) := by decide +kernel
theorem dX7_keepFirst_33 : decode cX7_keepFirst 33 = .ok (.iload_n 2, 1) := by decide +kernel
theorem dX7_keepFirst_34 : decode cX7_keepFirst 34 = .ok (.iconst 0, 1) := by decide +kernel
theorem dX7_keepFirst_35 : decode cX7_keepFirst 35 = .ok (.iastore, 1) := by decide +kernel
theorem dX7_keepFirst_36 : decode cX7_keepFirst 36 = .ok (.aload_n 0, 1) := by decide +kernel
theorem dX7_keepFirst_37 : decode cX7_keepFirst 37 = .ok (.iload_n 1, 1) := by decide +kernel
theorem dX7_keepFirst_38 : decode cX7_keepFirst 38 = .ok (.invokevirtual 156, 3) := by decide +kernel
theorem dX7_keepFirst_41 : decode cX7_keepFirst 41 = .ok (.ifCond .ne 16, 3) := by decide +kernel
theorem dX7_keepFirst_44 : decode cX7_keepFirst 44 = .ok (.aload_n 0, 1) := by decide +kernel
theorem dX7_keepFirst_45 : decode cX7_keepFirst 45 = .ok (.getfield 37, 3) := by decide +kernel
theorem dX7_keepFirst_48 : decode cX7_keepFirst 48 = .ok (.iload_n 2, 1) := by decide +kernel
theorem dX7_keepFirst_49 : decode cX7_keepFirst 49 = .ok (.dup2, 1) := by decide +kernel
theorem dX7_keepFirst_50 : decode cX7_keepFirst 50 = .ok (.iaload, 1) := by decide +kernel
theorem dX7_keepFirst_51 : decode cX7_keepFirst 51 = .ok (.iconst 1, 1) := by decide +kernel
theorem dX7_keepFirst_52 : decode cX7_keepFirst 52 = .ok (.iadd, 1) := by decide +kernel
theorem dX7_keepFirst_53 : decode cX7_keepFirst 53 = .ok (.iastore, 1) := by decide +kernel
theorem dX7_keepFirst_54 : decode cX7_keepFirst 54 = .ok (.goto (-18), 3) := by decide +kernel
theorem dX7_keepFirst_57 : decode cX7_keepFirst 57 = .ok (.iinc 2 1, 3) := by decide +kernel
theorem dX7_keepFirst_60 : decode cX7_keepFirst 60 = .ok (.goto (-58), 3) := by decide +kernel
theorem dX7_keepFirst_63 : decode cX7_keepFirst 63 = .ok (.iconst 0, 1) := by decide +kernel
theorem dX7_keepFirst_64 : decode cX7_keepFirst 64 = .ok (.istore_n 2, 1) := by decide +kernel
theorem dX7_keepFirst_65 : decode cX7_keepFirst 65 = .ok (.iload_n 2, 1) := by decide +kernel
theorem dX7_keepFirst_66 : decode cX7_keepFirst 66 = .ok (.aload_n 0, 1) := by decide +kernel
theorem dX7_keepFirst_67 : decode cX7_keepFirst 67 = .ok (.getfield 9, 3) := by decide +kernel
theorem dX7_keepFirst_70 : decode cX7_keepFirst 70 = .ok (.iconst 0, 1) := by decide +kernel
theorem dX7_keepFirst_71 : decode cX7_keepFirst 71 = .ok (.iaload, 1) := by decide +kernel
theorem dX7_keepFirst_72 : decode cX7_keepFirst 72 = .ok (.if_icmp .ge 36, 3) := by decide +kernel
theorem dX7_keepFirst_75 : decode cX7_keepFirst 75 = .ok (.aload_n 0, 1) := by decide +kernel
theorem dX7_keepFirst_76 : decode cX7_keepFirst 76 = .ok (.getfield 9, 3) := by decide +kernel
theorem dX7_keepFirst_79 : decode cX7_keepFirst 79 = .ok (.bipush 52, 2) := by decide +kernel
theorem dX7_keepFirst_81 : decode cX7_keepFirst 81 = .ok (.iload_n 2, 1) := by decide +kernel
theorem dX7_keepFirst_82 : decode cX7_keepFirst 82 = .ok (.iadd, 1) := by decide +kernel
theorem dX7_keepFirst_83 : decode cX7_keepFirst 83 = .ok (.iload_n 1, 1) := by decide +kernel
theorem dX7_keepFirst_84 : decode cX7_keepFirst 84 = .ok (.iload_n 2, 1) := by decide +kernel
theorem dX7_keepFirst_85 : decode cX7_keepFirst 85 = .ok (.invokestatic 93, 3) := by decide +kernel
theorem dX7_keepFirst_88 : decode cX7_keepFirst 88 = .ok (.ifCond .eq 12, 3) := by decide +kernel
theorem dX7_keepFirst_91 : decode cX7_keepFirst 91 = .ok (.aload_n 0, 1) := by decide +kernel
theorem dX7_keepFirst_92 : decode cX7_keepFirst 92 = .ok (.getfield 37, 3) := by decide +kernel
theorem dX7_keepFirst_95 : decode cX7_keepFirst 95 = .ok (.iload_n 2, 1) := by decide +kernel
theorem dX7_keepFirst_96 : decode cX7_keepFirst 96 = .ok (.iaload, 1) := by decide +kernel
theorem dX7_keepFirst_97 : decode cX7_keepFirst 97 = .ok (.goto 4, 3) := by decide +kernel
theorem dX7_keepFirst_100 : decode cX7_keepFirst 100 = .ok (.iconst (-1), 1) := by decide +kernel
theorem dX7_keepFirst_101 : decode cX7_keepFirst 101 = .ok (.iastore, 1) := by decide +kernel
theorem dX7_keepFirst_102 : decode cX7_keepFirst 102 = .ok (.iinc 2 1, 3) := by decide +kernel
theorem dX7_keepFirst_105 : decode cX7_keepFirst 105 = .ok (.goto (-40), 3) := by decide +kernel
theorem dX7_keepFirst_108 : decode cX7_keepFirst 108 = .ok (.return_, 1) := by decide +kernel
theorem dX7_assign_0 : decode cX7_assign 0 = .ok (.aload_n 0, 1) := by decide +kernel
theorem dX7_assign_1 : decode cX7_assign 1 = .ok (.iconst 1, 1) := by decide +kernel
theorem dX7_assign_2 : decode cX7_assign 2 = .ok (.aload_n 0, 1) := by decide +kernel
theorem dX7_assign_3 : decode cX7_assign 3 = .ok (.iload_n 1, 1) := by decide +kernel
theorem dX7_assign_4 : decode cX7_assign 4 = .ok (.invokevirtual 150, 3) := by decide +kernel
theorem dX7_assign_7 : decode cX7_assign 7 = .ok (.ifCond .ne 7, 3) := by decide +kernel
theorem dX7_assign_10 : decode cX7_assign 10 = .ok (.iconst 1, 1) := by decide +kernel
theorem dX7_assign_11 : decode cX7_assign 11 = .ok (.goto 4, 3) := by decide +kernel
theorem dX7_assign_14 : decode cX7_assign 14 = .ok (.iconst 0, 1) := by decide +kernel
theorem dX7_assign_15 : decode cX7_assign 15 = .ok (.invokevirtual 54, 3) := by decide +kernel
theorem dX7_assign_18 : decode cX7_assign 18 = .ok (.ifCond .ne 24, 3) := by decide +kernel
theorem dX7_assign_21 : decode cX7_assign 21 = .ok (.aload_n 0, 1) := by decide +kernel
theorem dX7_assign_22 : decode cX7_assign 22 = .ok (.iconst 2, 1) := by decide +kernel
theorem dX7_assign_23 : decode cX7_assign 23 = .ok (.aload_n 0, 1) := by decide +kernel
theorem dX7_assign_24 : decode cX7_assign 24 = .ok (.iload_n 1, 1) := by decide +kernel
theorem dX7_assign_25 : decode cX7_assign 25 = .ok (.invokevirtual 153, 3) := by decide +kernel
theorem dX7_assign_28 : decode cX7_assign 28 = .ok (.ifCond .ne 7, 3) := by decide +kernel
theorem dX7_assign_31 : decode cX7_assign 31 = .ok (.iconst 1, 1) := by decide +kernel
theorem dX7_assign_32 : decode cX7_assign 32 = .ok (.goto 4, 3) := by decide +kernel
theorem dX7_assign_35 : decode cX7_assign 35 = .ok (.iconst 0, 1) := by decide +kernel
theorem dX7_assign_36 : decode cX7_assign 36 = .ok (.invokevirtual 54, 3) := by decide +kernel
theorem dX7_assign_39 : decode cX7_assign 39 = .ok (.ifCond .eq 5, 3) := by decide +kernel
theorem dX7_assign_42 : decode cX7_assign 42 = .ok (.iconst 0, 1) := by decide +kernel
theorem dX7_assign_43 : decode cX7_assign 43 = .ok (.ireturn, 1) := by decide +kernel
theorem dX7_assign_44 : decode cX7_assign 44 = .ok (.aload_n 0, 1) := by decide +kernel
theorem dX7_assign_45 : decode cX7_assign 45 = .ok (.invokevirtual 159, 3) := by decide +kernel
theorem dX7_assign_48 : decode cX7_assign 48 = .ok (.aload_n 0, 1) := by decide +kernel
theorem dX7_assign_49 : decode cX7_assign 49 = .ok (.iload_n 1, 1) := by decide +kernel
theorem dX7_assign_50 : decode cX7_assign 50 = .ok (.invokevirtual 162, 3) := by decide +kernel
theorem dX7_assign_53 : decode cX7_assign 53 = .ok (.iconst 0, 1) := by decide +kernel
theorem dX7_assign_54 : decode cX7_assign 54 = .ok (.istore_n 2, 1) := by decide +kernel
theorem dX7_assign_55 : decode cX7_assign 55 = .ok (.iconst 0, 1) := by decide +kernel
theorem dX7_assign_56 : decode cX7_assign 56 = .ok (.istore_n 3, 1) := by decide +kernel
theorem dX7_assign_57 : decode cX7_assign 57 = .ok (.iload_n 3, 1) := by decide +kernel
theorem dX7_assign_58 : decode cX7_assign 58 = .ok (.aload_n 0, 1) := by decide +kernel
theorem dX7_assign_59 : decode cX7_assign 59 = .ok (.getfield 9, 3) := by decide +kernel
theorem dX7_assign_62 : decode cX7_assign 62 = .ok (.iconst 0, 1) := by decide +kernel
theorem dX7_assign_63 : decode cX7_assign 63 = .ok (.iaload, 1) := by decide +kernel
theorem dX7_assign_64 : decode cX7_assign 64 = .ok (.if_icmp .ge 39, 3) := by decide +kernel
theorem dX7_assign_67 : decode cX7_assign 67 = .ok (.iload_n 2, 1) := by decide +kernel
theorem dX7_assign_68 : decode cX7_assign 68 = .ok (.aload_n 0, 1) := by decide +kernel
theorem dX7_assign_69 : decode cX7_assign 69 = .ok (.getfield 9, 3) := by decide +kernel
theorem dX7_assign_72 : decode cX7_assign 72 = .ok (.bipush 52, 2) := by decide +kernel
theorem dX7_assign_74 : decode cX7_assign 74 = .ok (.iload_n 3, 1) := by decide +kernel
theorem dX7_assign_75 : decode cX7_assign 75 = .ok (.iadd, 1) := by decide +kernel
theorem dX7_assign_76 : decode cX7_assign 76 = .ok (.iaload, 1) := by decide +kernel
theorem dX7_assign_77 : decode cX7_assign 77 = .ok (.ifCond .lt 17, 3) := by decide +kernel
theorem dX7_assign_80 : decode cX7_assign 80 = .ok (.iconst 1, 1) := by decide +kernel
theorem dX7_assign_81 : decode cX7_assign 81 = .ok (.aload_n 0, 1) := by decide +kernel
theorem dX7_assign_82 : decode cX7_assign 82 = .ok (.getfield 9, 3) := by decide +kernel
theorem dX7_assign_85 : decode cX7_assign 85 = .ok (.bipush 52, 2) := by decide +kernel
theorem dX7_assign_87 : decode cX7_assign 87 = .ok (.iload_n 3, 1) := by decide +kernel
theorem dX7_assign_88 : decode cX7_assign 88 = .ok (.iadd, 1) := by decide +kernel
theorem dX7_assign_89 : decode cX7_assign 89 = .ok (.iaload, 1) := by decide +kernel
theorem dX7_assign_90 : decode cX7_assign 90 = .ok (.ishl, 1) := by decide +kernel
theorem dX7_assign_91 : decode cX7_assign 91 = .ok (.goto 4, 3) := by decide +kernel
theorem dX7_assign_94 : decode cX7_assign 94 = .ok (.iconst 0, 1) := by decide +kernel
theorem dX7_assign_95 : decode cX7_assign 95 = .ok (.ior, 1) := by decide +kernel
theorem dX7_assign_96 : decode cX7_assign 96 = .ok (.istore_n 2, 1) := by decide +kernel
theorem dX7_assign_97 : decode cX7_assign 97 = .ok (.iinc 3 1, 3) := by decide +kernel
theorem dX7_assign_100 : decode cX7_assign 100 = .ok (.goto (-43), 3) := by decide +kernel
theorem dX7_assign_103 : decode cX7_assign 103 = .ok (.iload_n 2, 1) := by decide +kernel
theorem dX7_assign_104 : decode cX7_assign 104 = .ok (.invokestatic 109, 3) := by decide +kernel
theorem dX7_assign_107 : decode cX7_assign 107 = .ok (.ireturn, 1) := by decide +kernel
theorem dX7_repack_0 : decode cX7_repack 0 = .ok (.aload_n 0, 1) := by decide +kernel
theorem dX7_repack_1 : decode cX7_repack 1 = .ok (.iconst 1, 1) := by decide +kernel
theorem dX7_repack_2 : decode cX7_repack 2 = .ok (.aload_n 0, 1) := by decide +kernel
theorem dX7_repack_3 : decode cX7_repack 3 = .ok (.iload_n 1, 1) := by decide +kernel
theorem dX7_repack_4 : decode cX7_repack 4 = .ok (.invokevirtual 150, 3) := by decide +kernel
theorem dX7_repack_7 : decode cX7_repack 7 = .ok (.ifCond .ne 7, 3) := by decide +kernel
theorem dX7_repack_10 : decode cX7_repack 10 = .ok (.iconst 1, 1) := by decide +kernel
theorem dX7_repack_11 : decode cX7_repack 11 = .ok (.goto 4, 3) := by decide +kernel
theorem dX7_repack_14 : decode cX7_repack 14 = .ok (.iconst 0, 1) := by decide +kernel
theorem dX7_repack_15 : decode cX7_repack 15 = .ok (.invokevirtual 54, 3) := by decide +kernel
theorem dX7_repack_18 : decode cX7_repack 18 = .ok (.ifCond .ne 24, 3) := by decide +kernel
theorem dX7_repack_21 : decode cX7_repack 21 = .ok (.aload_n 0, 1) := by decide +kernel
theorem dX7_repack_22 : decode cX7_repack 22 = .ok (.iconst 2, 1) := by decide +kernel
theorem dX7_repack_23 : decode cX7_repack 23 = .ok (.aload_n 0, 1) := by decide +kernel
theorem dX7_repack_24 : decode cX7_repack 24 = .ok (.iload_n 1, 1) := by decide +kernel
theorem dX7_repack_25 : decode cX7_repack 25 = .ok (.invokevirtual 153, 3) := by decide +kernel
theorem dX7_repack_28 : decode cX7_repack 28 = .ok (.ifCond .ne 7, 3) := by decide +kernel
theorem dX7_repack_31 : decode cX7_repack 31 = .ok (.iconst 1, 1) := by decide +kernel
theorem dX7_repack_32 : decode cX7_repack 32 = .ok (.goto 4, 3) := by decide +kernel
theorem dX7_repack_35 : decode cX7_repack 35 = .ok (.iconst 0, 1) := by decide +kernel
theorem dX7_repack_36 : decode cX7_repack 36 = .ok (.invokevirtual 54, 3) := by decide +kernel
theorem dX7_repack_39 : decode cX7_repack 39 = .ok (.ifCond .eq 5, 3) := by decide +kernel
theorem dX7_repack_42 : decode cX7_repack 42 = .ok (.iconst 0, 1) := by decide +kernel
theorem dX7_repack_43 : decode cX7_repack 43 = .ok (.ireturn, 1) := by decide +kernel
theorem dX7_repack_44 : decode cX7_repack 44 = .ok (.aload_n 0, 1) := by decide +kernel
theorem dX7_repack_45 : decode cX7_repack 45 = .ok (.invokevirtual 159, 3) := by decide +kernel
theorem dX7_repack_48 : decode cX7_repack 48 = .ok (.iconst 0, 1) := by decide +kernel
theorem dX7_repack_49 : decode cX7_repack 49 = .ok (.istore_n 2, 1) := by decide +kernel
theorem dX7_repack_50 : decode cX7_repack 50 = .ok (.iload_n 2, 1) := by decide +kernel
theorem dX7_repack_51 : decode cX7_repack 51 = .ok (.aload_n 0, 1) := by decide +kernel
theorem dX7_repack_52 : decode cX7_repack 52 = .ok (.getfield 9, 3) := by decide +kernel
theorem dX7_repack_55 : decode cX7_repack 55 = .ok (.iconst 0, 1) := by decide +kernel
theorem dX7_repack_56 : decode cX7_repack 56 = .ok (.iaload, 1) := by decide +kernel
theorem dX7_repack_57 : decode cX7_repack 57 = .ok (.if_icmp .ge 75, 3) := by decide +kernel
theorem dX7_repack_60 : decode cX7_repack 60 = .ok (.aload_n 0, 1) := by decide +kernel
theorem dX7_repack_61 : decode cX7_repack 61 = .ok (.getfield 40, 3) := by decide +kernel
theorem dX7_repack_64 : decode cX7_repack 64 = .ok (.iload_n 2, 1) := by decide +kernel
theorem dX7_repack_65 : decode cX7_repack 65 = .ok (.aload_n 0, 1) := by decide +kernel
theorem dX7_repack_66 : decode cX7_repack 66 = .ok (.getfield 9, 3) := by decide +kernel
theorem dX7_repack_69 : decode cX7_repack 69 = .ok (.bipush 52, 2) := by decide +kernel
theorem dX7_repack_71 : decode cX7_repack 71 = .ok (.iload_n 2, 1) := by decide +kernel
theorem dX7_repack_72 : decode cX7_repack 72 = .ok (.iadd, 1) := by decide +kernel
theorem dX7_repack_73 : decode cX7_repack 73 = .ok (.iaload, 1) := by decide +kernel
theorem dX7_repack_74 : decode cX7_repack 74 = .ok (.iastore, 1) := by decide +kernel
theorem dX7_repack_75 : decode cX7_repack 75 = .ok (.aload_n 0, 1) := by decide +kernel
theorem dX7_repack_76 : decode cX7_repack 76 = .ok (.getfield 37, 3) := by decide +kernel
theorem dX7_repack_79 : decode cX7_repack 79 = .ok (.iload_n 2, 1) := by decide +kernel
theorem dX7_repack_80 : decode cX7_repack 80 = .ok (.iload_n 1, 1) := by decide +kernel
theorem dX7_repack_81 : decode cX7_repack 81 = .ok (.iload_n 2, 1) := by decide +kernel
theorem dX7_repack_82 : decode cX7_repack 82 = .ok (.invokestatic 93, 3) := by decide +kernel
theorem dX7_repack_85 : decode cX7_repack 85 = .ok (.ifCond .eq 15, 3) := by decide +kernel
theorem dX7_repack_88 : decode cX7_repack 88 = .ok (.aload_n 0, 1) := by decide +kernel
theorem dX7_repack_89 : decode cX7_repack 89 = .ok (.getfield 9, 3) := by decide +kernel
theorem dX7_repack_92 : decode cX7_repack 92 = .ok (.bipush 52, 2) := by decide +kernel
theorem dX7_repack_94 : decode cX7_repack 94 = .ok (.iload_n 2, 1) := by decide +kernel
theorem dX7_repack_95 : decode cX7_repack 95 = .ok (.iadd, 1) := by decide +kernel
theorem dX7_repack_96 : decode cX7_repack 96 = .ok (.iaload, 1) := by decide +kernel
theorem dX7_repack_97 : decode cX7_repack 97 = .ok (.goto 4, 3) := by decide +kernel
theorem dX7_repack_100 : decode cX7_repack 100 = .ok (.iconst (-1), 1) := by decide +kernel
theorem dX7_repack_101 : decode cX7_repack 101 = .ok (.iastore, 1) := by decide +kernel
theorem dX7_repack_102 : decode cX7_repack 102 = .ok (.aload_n 0, 1) := by decide +kernel
theorem dX7_repack_103 : decode cX7_repack 103 = .ok (.getfield 37, 3) := by decide +kernel
theorem dX7_repack_106 : decode cX7_repack 106 = .ok (.iload_n 2, 1) := by decide +kernel
theorem dX7_repack_107 : decode cX7_repack 107 = .ok (.iaload, 1) := by decide +kernel
theorem dX7_repack_108 : decode cX7_repack 108 = .ok (.ifCond .lt 18, 3) := by decide +kernel
theorem dX7_repack_111 : decode cX7_repack 111 = .ok (.aload_n 0, 1) := by decide +kernel
theorem dX7_repack_112 : decode cX7_repack 112 = .ok (.iload_n 1, 1) := by decide +kernel
theorem dX7_repack_113 : decode cX7_repack 113 = .ok (.invokevirtual 156, 3) := by decide +kernel
theorem dX7_repack_116 : decode cX7_repack 116 = .ok (.ifCond .ne 10, 3) := by decide +kernel
theorem dX7_repack_119 : decode cX7_repack 119 = .ok (.aload_n 0, 1) := by decide +kernel
theorem dX7_repack_120 : decode cX7_repack 120 = .ok (.getfield 37, 3) := by decide +kernel
theorem dX7_repack_123 : decode cX7_repack 123 = .ok (.iload_n 2, 1) := by decide +kernel
theorem dX7_repack_124 : decode cX7_repack 124 = .ok (.iconst (-1), 1) := by decide +kernel
theorem dX7_repack_125 : decode cX7_repack 125 = .ok (.iastore, 1) := by decide +kernel
theorem dX7_repack_126 : decode cX7_repack 126 = .ok (.iinc 2 1, 3) := by decide +kernel
theorem dX7_repack_129 : decode cX7_repack 129 = .ok (.goto (-79), 3) := by decide +kernel
theorem dX7_repack_132 : decode cX7_repack 132 = .ok (.aload_n 0, 1) := by decide +kernel
theorem dX7_repack_133 : decode cX7_repack 133 = .ok (.iload_n 1, 1) := by decide +kernel
theorem dX7_repack_134 : decode cX7_repack 134 = .ok (.invokevirtual 162, 3) := by decide +kernel
theorem dX7_repack_137 : decode cX7_repack 137 = .ok (.iconst 0, 1) := by decide +kernel
theorem dX7_repack_138 : decode cX7_repack 138 = .ok (.istore_n 2, 1) := by decide +kernel
theorem dX7_repack_139 : decode cX7_repack 139 = .ok (.iconst 0, 1) := by decide +kernel
theorem dX7_repack_140 : decode cX7_repack 140 = .ok (.istore_n 3, 1) := by decide +kernel
theorem dX7_repack_141 : decode cX7_repack 141 = .ok (.iload_n 3, 1) := by decide +kernel
theorem dX7_repack_142 : decode cX7_repack 142 = .ok (.aload_n 0, 1) := by decide +kernel
theorem dX7_repack_143 : decode cX7_repack 143 = .ok (.getfield 9, 3) := by decide +kernel
theorem dX7_repack_146 : decode cX7_repack 146 = .ok (.iconst 0, 1) := by decide +kernel
theorem dX7_repack_147 : decode cX7_repack 147 = .ok (.iaload, 1) := by decide +kernel
theorem dX7_repack_148 : decode cX7_repack 148 = .ok (.if_icmp .ge 43, 3) := by decide +kernel
theorem dX7_repack_151 : decode cX7_repack 151 = .ok (.iload_n 2, 1) := by decide +kernel
theorem dX7_repack_152 : decode cX7_repack 152 = .ok (.iload_n 1, 1) := by decide +kernel
theorem dX7_repack_153 : decode cX7_repack 153 = .ok (.iload_n 3, 1) := by decide +kernel
theorem dX7_repack_154 : decode cX7_repack 154 = .ok (.invokestatic 93, 3) := by decide +kernel
theorem dX7_repack_157 : decode cX7_repack 157 = .ok (.ifCond .eq 25, 3) := by decide +kernel
theorem dX7_repack_160 : decode cX7_repack 160 = .ok (.aload_n 0, 1) := by decide +kernel
theorem dX7_repack_161 : decode cX7_repack 161 = .ok (.getfield 9, 3) := by decide +kernel
theorem dX7_repack_164 : decode cX7_repack 164 = .ok (.bipush 52, 2) := by decide +kernel
theorem dX7_repack_166 : decode cX7_repack 166 = .ok (.iload_n 3, 1) := by decide +kernel
theorem dX7_repack_167 : decode cX7_repack 167 = .ok (.iadd, 1) := by decide +kernel
theorem dX7_repack_168 : decode cX7_repack 168 = .ok (.iaload, 1) := by decide +kernel
theorem dX7_repack_169 : decode cX7_repack 169 = .ok (.aload_n 0, 1) := by decide +kernel
theorem dX7_repack_170 : decode cX7_repack 170 = .ok (.getfield 40, 3) := by decide +kernel
theorem dX7_repack_173 : decode cX7_repack 173 = .ok (.iload_n 3, 1) := by decide +kernel
theorem dX7_repack_174 : decode cX7_repack 174 = .ok (.iaload, 1) := by decide +kernel
theorem dX7_repack_175 : decode cX7_repack 175 = .ok (.if_icmp .eq 7, 3) := by decide +kernel
theorem dX7_repack_178 : decode cX7_repack 178 = .ok (.iconst 1, 1) := by decide +kernel
theorem dX7_repack_179 : decode cX7_repack 179 = .ok (.goto 4, 3) := by decide +kernel
theorem dX7_repack_182 : decode cX7_repack 182 = .ok (.iconst 0, 1) := by decide +kernel
theorem dX7_repack_183 : decode cX7_repack 183 = .ok (.iadd, 1) := by decide +kernel
theorem dX7_repack_184 : decode cX7_repack 184 = .ok (.istore_n 2, 1) := by decide +kernel
theorem dX7_repack_185 : decode cX7_repack 185 = .ok (.iinc 3 1, 3) := by decide +kernel
theorem dX7_repack_188 : decode cX7_repack 188 = .ok (.goto (-47), 3) := by decide +kernel
theorem dX7_repack_191 : decode cX7_repack 191 = .ok (.iload_n 2, 1) := by decide +kernel
theorem dX7_repack_192 : decode cX7_repack 192 = .ok (.ireturn, 1) := by decide +kernel
theorem dX7_assignments_0 : decode cX7_assignments 0 = .ok (.aload_n 0, 1) := by decide +kernel
theorem dX7_assignments_1 : decode cX7_assignments 1 = .ok (.iconst 1, 1) := by decide +kernel
theorem dX7_assignments_2 : decode cX7_assignments 2 = .ok (.aload_n 0, 1) := by decide +kernel
theorem dX7_assignments_3 : decode cX7_assignments 3 = .ok (.iload_n 1, 1) := by decide +kernel
theorem dX7_assignments_4 : decode cX7_assignments 4 = .ok (.invokevirtual 150, 3) := by decide +kernel
theorem dX7_assignments_7 : decode cX7_assignments 7 = .ok (.ifCond .ne 7, 3) := by decide +kernel
theorem dX7_assignments_10 : decode cX7_assignments 10 = .ok (.iconst 1, 1) := by decide +kernel
theorem dX7_assignments_11 : decode cX7_assignments 11 = .ok (.goto 4, 3) := by decide +kernel
theorem dX7_assignments_14 : decode cX7_assignments 14 = .ok (.iconst 0, 1) := by decide +kernel
theorem dX7_assignments_15 : decode cX7_assignments 15 = .ok (.invokevirtual 54, 3) := by decide +kernel
theorem dX7_assignments_18 : decode cX7_assignments 18 = .ok (.ifCond .eq 5, 3) := by decide +kernel
theorem dX7_assignments_21 : decode cX7_assignments 21 = .ok (.iconst 0, 1) := by decide +kernel
theorem dX7_assignments_22 : decode cX7_assignments 22 = .ok (.ireturn, 1) := by decide +kernel
theorem dX7_assignments_23 : decode cX7_assignments 23 = .ok (.aload_n 0, 1) := by decide +kernel
theorem dX7_assignments_24 : decode cX7_assignments 24 = .ok (.iload_n 1, 1) := by decide +kernel
theorem dX7_assignments_25 : decode cX7_assignments 25 = .ok (.aload_n 0, 1) := by decide +kernel
theorem dX7_assignments_26 : decode cX7_assignments 26 = .ok (.getfield 9, 3) := by decide +kernel
theorem dX7_assignments_29 : decode cX7_assignments 29 = .ok (.iconst 1, 1) := by decide +kernel
theorem dX7_assignments_30 : decode cX7_assignments 30 = .ok (.iaload, 1) := by decide +kernel
theorem dX7_assignments_31 : decode cX7_assignments 31 = .ok (.invokevirtual 140, 3) := by decide +kernel
theorem dX7_assignments_34 : decode cX7_assignments 34 = .ok (.aload_n 0, 1) := by decide +kernel
theorem dX7_assignments_35 : decode cX7_assignments 35 = .ok (.iload_n 1, 1) := by decide +kernel
theorem dX7_assignments_36 : decode cX7_assignments 36 = .ok (.sipush 1000, 3) := by decide +kernel
theorem dX7_assignments_39 : decode cX7_assignments 39 = .ok (.invokevirtual 144, 3) := by decide +kernel
theorem dX7_assignments_42 : decode cX7_assignments 42 = .ok (.ireturn, 1) := by decide +kernel
theorem dX7_channelsNeeded_0 : decode cX7_channelsNeeded 0 = .ok (.aload_n 0, 1) := by decide +kernel
theorem dX7_channelsNeeded_1 : decode cX7_channelsNeeded 1 = .ok (.iconst 1, 1) := by decide +kernel
theorem dX7_channelsNeeded_2 : decode cX7_channelsNeeded 2 = .ok (.aload_n 0, 1) := by decide +kernel
theorem dX7_channelsNeeded_3 : decode cX7_channelsNeeded 3 = .ok (.iload_n 1, 1) := by decide +kernel
theorem dX7_channelsNeeded_4 : decode cX7_channelsNeeded 4 = .ok (.invokevirtual 150, 3) := by decide +kernel
theorem dX7_channelsNeeded_7 : decode cX7_channelsNeeded 7 = .ok (.ifCond .ne 7, 3) := by decide +kernel
theorem dX7_channelsNeeded_10 : decode cX7_channelsNeeded 10 = .ok (.iconst 1, 1) := by decide +kernel
theorem dX7_channelsNeeded_11 : decode cX7_channelsNeeded 11 = .ok (.goto 4, 3) := by decide +kernel
theorem dX7_channelsNeeded_14 : decode cX7_channelsNeeded 14 = .ok (.iconst 0, 1) := by decide +kernel
theorem dX7_channelsNeeded_15 : decode cX7_channelsNeeded 15 = .ok (.invokevirtual 54, 3) := by decide +kernel
theorem dX7_channelsNeeded_18 : decode cX7_channelsNeeded 18 = .ok (.ifCond .ne 24, 3) := by decide +kernel
theorem dX7_channelsNeeded_21 : decode cX7_channelsNeeded 21 = .ok (.aload_n 0, 1) := by decide +kernel
theorem dX7_channelsNeeded_22 : decode cX7_channelsNeeded 22 = .ok (.iconst 2, 1) := by decide +kernel
theorem dX7_channelsNeeded_23 : decode cX7_channelsNeeded 23 = .ok (.aload_n 0, 1) := by decide +kernel
theorem dX7_channelsNeeded_24 : decode cX7_channelsNeeded 24 = .ok (.iload_n 1, 1) := by decide +kernel
theorem dX7_channelsNeeded_25 : decode cX7_channelsNeeded 25 = .ok (.invokevirtual 153, 3) := by decide +kernel
theorem dX7_channelsNeeded_28 : decode cX7_channelsNeeded 28 = .ok (.ifCond .ne 7, 3) := by decide +kernel
theorem dX7_channelsNeeded_31 : decode cX7_channelsNeeded 31 = .ok (.iconst 1, 1) := by decide +kernel
theorem dX7_channelsNeeded_32 : decode cX7_channelsNeeded 32 = .ok (.goto 4, 3) := by decide +kernel
theorem dX7_channelsNeeded_35 : decode cX7_channelsNeeded 35 = .ok (.iconst 0, 1) := by decide +kernel
theorem dX7_channelsNeeded_36 : decode cX7_channelsNeeded 36 = .ok (.invokevirtual 54, 3) := by decide +kernel
theorem dX7_channelsNeeded_39 : decode cX7_channelsNeeded 39 = .ok (.ifCond .eq 5, 3) := by decide +kernel
theorem dX7_channelsNeeded_42 : decode cX7_channelsNeeded 42 = .ok (.iconst 0, 1) := by decide +kernel
theorem dX7_channelsNeeded_43 : decode cX7_channelsNeeded 43 = .ok (.ireturn, 1) := by decide +kernel
theorem dX7_channelsNeeded_44 : decode cX7_channelsNeeded 44 = .ok (.bipush 8, 2) := by decide +kernel
theorem dX7_channelsNeeded_46 : decode cX7_channelsNeeded 46 = .ok (.istore_n 2, 1) := by decide +kernel
theorem dX7_channelsNeeded_47 : decode cX7_channelsNeeded 47 = .ok (.iconst 0, 1) := by decide +kernel
theorem dX7_channelsNeeded_48 : decode cX7_channelsNeeded 48 = .ok (.istore_n 3, 1) := by decide +kernel
theorem dX7_channelsNeeded_49 : decode cX7_channelsNeeded 49 = .ok (.iload_n 3, 1) := by decide +kernel
theorem dX7_channelsNeeded_50 : decode cX7_channelsNeeded 50 = .ok (.sipush 255, 3) := by decide +kernel
theorem dX7_channelsNeeded_53 : decode cX7_channelsNeeded 53 = .ok (.if_icmp .gt 44, 3) := by decide +kernel
theorem dX7_channelsNeeded_56 : decode cX7_channelsNeeded 56 = .ok (.iload_n 3, 1) := by decide +kernel
theorem dX7_channelsNeeded_57 : decode cX7_channelsNeeded 57 = .ok (.aload_n 0, 1) := by decide +kernel
theorem dX7_channelsNeeded_58 : decode cX7_channelsNeeded 58 = .ok (.getfield 9, 3) := by decide +kernel
theorem dX7_channelsNeeded_61 : decode cX7_channelsNeeded 61 = .ok (.iconst 1, 1) := by decide +kernel
theorem dX7_channelsNeeded_62 : decode cX7_channelsNeeded 62 = .ok (.iaload, 1) := by decide +kernel
theorem dX7_channelsNeeded_63 : decode cX7_channelsNeeded 63 = .ok (.iconst (-1), 1) := by decide +kernel
theorem dX7_channelsNeeded_64 : decode cX7_channelsNeeded 64 = .ok (.ixor, 1) := by decide +kernel
theorem dX7_channelsNeeded_65 : decode cX7_channelsNeeded 65 = .ok (.iand, 1) := by decide +kernel
theorem dX7_channelsNeeded_66 : decode cX7_channelsNeeded 66 = .ok (.ifCond .ne 25, 3) := by decide +kernel
theorem dX7_channelsNeeded_69 : decode cX7_channelsNeeded 69 = .ok (.iload_n 3, 1) := by decide +kernel
theorem dX7_channelsNeeded_70 : decode cX7_channelsNeeded 70 = .ok (.invokestatic 109, 3) := by decide +kernel
theorem dX7_channelsNeeded_73 : decode cX7_channelsNeeded 73 = .ok (.iload_n 2, 1) := by decide +kernel
theorem dX7_channelsNeeded_74 : decode cX7_channelsNeeded 74 = .ok (.if_icmp .ge 17, 3) := by decide +kernel
theorem dX7_channelsNeeded_77 : decode cX7_channelsNeeded 77 = .ok (.aload_n 0, 1) := by decide +kernel
theorem dX7_channelsNeeded_78 : decode cX7_channelsNeeded 78 = .ok (.iload_n 1, 1) := by decide +kernel
theorem dX7_channelsNeeded_79 : decode cX7_channelsNeeded 79 = .ok (.iload_n 3, 1) := by decide +kernel
theorem dX7_channelsNeeded_80 : decode cX7_channelsNeeded 80 = .ok (.invokevirtual 147, 3) := by decide +kernel
theorem dX7_channelsNeeded_83 : decode cX7_channelsNeeded 83 = .ok (.ifCond .eq 8, 3) := by decide +kernel
theorem dX7_channelsNeeded_86 : decode cX7_channelsNeeded 86 = .ok (.iload_n 3, 1) := by decide +kernel
theorem dX7_channelsNeeded_87 : decode cX7_channelsNeeded 87 = .ok (.invokestatic 109, 3) := by decide +kernel
theorem dX7_channelsNeeded_90 : decode cX7_channelsNeeded 90 = .ok (.istore_n 2, 1) := by decide +kernel
theorem dX7_channelsNeeded_91 : decode cX7_channelsNeeded 91 = .ok (.iinc 3 1, 3) := by decide +kernel
theorem dX7_channelsNeeded_94 : decode cX7_channelsNeeded 94 = .ok (.goto (-45), 3) := by decide +kernel
theorem dX7_channelsNeeded_97 : decode cX7_channelsNeeded 97 = .ok (.iload_n 2, 1) := by decide +kernel
theorem dX7_channelsNeeded_98 : decode cX7_channelsNeeded 98 = .ok (.ireturn, 1) := by decide +kernel
theorem dX7_reason_0 : decode cX7_reason 0 = .ok (.iconst (-1), 1) := by decide +kernel
theorem dX7_reason_1 : decode cX7_reason 1 = .ok (.istore_n 3, 1) := by decide +kernel
theorem dX7_reason_2 : decode cX7_reason 2 = .ok (.iconst 0, 1) := by decide +kernel
theorem dX7_reason_3 : decode cX7_reason 3 = .ok (.istore 4, 2) := by decide +kernel
theorem dX7_reason_5 : decode cX7_reason 5 = .ok (.iload 4, 2) := by decide +kernel
theorem dX7_reason_7 : decode cX7_reason 7 = .ok (.iload_n 2, 1) := by decide +kernel
theorem dX7_reason_8 : decode cX7_reason 8 = .ok (.if_icmp .gt 62, 3) := by decide +kernel
theorem dX7_reason_11 : decode cX7_reason 11 = .ok (.iload_n 3, 1) := by decide +kernel
theorem dX7_reason_12 : decode cX7_reason 12 = .ok (.ifCond .lt 15, 3) := by decide +kernel
theorem dX7_reason_15 : decode cX7_reason 15 = .ok (.iload 4, 2) := by decide +kernel
theorem dX7_reason_17 : decode cX7_reason 17 = .ok (.invokestatic 109, 3) := by decide +kernel
theorem dX7_reason_20 : decode cX7_reason 20 = .ok (.iload_n 3, 1) := by decide +kernel
theorem dX7_reason_21 : decode cX7_reason 21 = .ok (.invokestatic 109, 3) := by decide +kernel
theorem dX7_reason_24 : decode cX7_reason 24 = .ok (.if_icmp .ge 7, 3) := by decide +kernel
theorem dX7_reason_27 : decode cX7_reason 27 = .ok (.iconst 1, 1) := by decide +kernel
theorem dX7_reason_28 : decode cX7_reason 28 = .ok (.goto 4, 3) := by decide +kernel
theorem dX7_reason_31 : decode cX7_reason 31 = .ok (.iconst 0, 1) := by decide +kernel
theorem dX7_reason_32 : decode cX7_reason 32 = .ok (.istore 5, 2) := by decide +kernel
theorem dX7_reason_34 : decode cX7_reason 34 = .ok (.iload 4, 2) := by decide +kernel
theorem dX7_reason_36 : decode cX7_reason 36 = .ok (.iload_n 2, 1) := by decide +kernel
theorem dX7_reason_37 : decode cX7_reason 37 = .ok (.iconst (-1), 1) := by decide +kernel
theorem dX7_reason_38 : decode cX7_reason 38 = .ok (.ixor, 1) := by decide +kernel
theorem dX7_reason_39 : decode cX7_reason 39 = .ok (.iand, 1) := by decide +kernel
theorem dX7_reason_40 : decode cX7_reason 40 = .ok (.ifCond .ne 24, 3) := by decide +kernel
theorem dX7_reason_43 : decode cX7_reason 43 = .ok (.iload 5, 2) := by decide +kernel
theorem dX7_reason_45 : decode cX7_reason 45 = .ok (.ifCond .eq 19, 3) := by decide +kernel
theorem dX7_reason_48 : decode cX7_reason 48 = .ok (.aload_n 0, 1) := by decide +kernel
theorem dX7_reason_49 : decode cX7_reason 49 = .ok (.iload 4, 2) := by decide +kernel
theorem dX7_reason_51 : decode cX7_reason 51 = .ok (.iconst 1, 1) := by decide +kernel
theorem dX7_reason_52 : decode cX7_reason 52 = .ok (.iload_n 1, 1) := by decide +kernel
theorem dX7_reason_53 : decode cX7_reason 53 = .ok (.ishl, 1) := by decide +kernel
theorem dX7_reason_54 : decode cX7_reason 54 = .ok (.ior, 1) := by decide +kernel
theorem dX7_reason_55 : decode cX7_reason 55 = .ok (.invokevirtual 153, 3) := by decide +kernel
theorem dX7_reason_58 : decode cX7_reason 58 = .ok (.ifCond .ne 6, 3) := by decide +kernel
theorem dX7_reason_61 : decode cX7_reason 61 = .ok (.iload 4, 2) := by decide +kernel
theorem dX7_reason_63 : decode cX7_reason 63 = .ok (.istore_n 3, 1) := by decide +kernel
theorem dX7_reason_64 : decode cX7_reason 64 = .ok (.iinc 4 1, 3) := by decide +kernel
theorem dX7_reason_67 : decode cX7_reason 67 = .ok (.goto (-62), 3) := by decide +kernel
theorem dX7_reason_70 : decode cX7_reason 70 = .ok (.iload_n 3, 1) := by decide +kernel
theorem dX7_reason_71 : decode cX7_reason 71 = .ok (.ireturn, 1) := by decide +kernel
theorem dX7_core_0 : decode cX7_core 0 = .ok (.aload_n 0, 1) := by decide +kernel
theorem dX7_core_1 : decode cX7_core 1 = .ok (.iconst 1, 1) := by decide +kernel
theorem dX7_core_2 : decode cX7_core 2 = .ok (.aload_n 0, 1) := by decide +kernel
theorem dX7_core_3 : decode cX7_core 3 = .ok (.iload_n 1, 1) := by decide +kernel
theorem dX7_core_4 : decode cX7_core 4 = .ok (.invokevirtual 62, 3) := by decide +kernel
theorem dX7_core_7 : decode cX7_core 7 = .ok (.ifCond .ne 7, 3) := by decide +kernel
theorem dX7_core_10 : decode cX7_core 10 = .ok (.iconst 1, 1) := by decide +kernel
theorem dX7_core_11 : decode cX7_core 11 = .ok (.goto 4, 3) := by decide +kernel
theorem dX7_core_14 : decode cX7_core 14 = .ok (.iconst 0, 1) := by decide +kernel
theorem dX7_core_15 : decode cX7_core 15 = .ok (.invokevirtual 54, 3) := by decide +kernel
theorem dX7_core_18 : decode cX7_core 18 = .ok (.ifCond .ne 41, 3) := by decide +kernel
theorem dX7_core_21 : decode cX7_core 21 = .ok (.aload_n 0, 1) := by decide +kernel
theorem dX7_core_22 : decode cX7_core 22 = .ok (.iconst 2, 1) := by decide +kernel
theorem dX7_core_23 : decode cX7_core 23 = .ok (.aload_n 0, 1) := by decide +kernel
theorem dX7_core_24 : decode cX7_core 24 = .ok (.iload_n 2, 1) := by decide +kernel
theorem dX7_core_25 : decode cX7_core 25 = .ok (.invokevirtual 150, 3) := by decide +kernel
theorem dX7_core_28 : decode cX7_core 28 = .ok (.ifCond .ne 7, 3) := by decide +kernel
theorem dX7_core_31 : decode cX7_core 31 = .ok (.iconst 1, 1) := by decide +kernel
theorem dX7_core_32 : decode cX7_core 32 = .ok (.goto 4, 3) := by decide +kernel
theorem dX7_core_35 : decode cX7_core 35 = .ok (.iconst 0, 1) := by decide +kernel
theorem dX7_core_36 : decode cX7_core 36 = .ok (.invokevirtual 54, 3) := by decide +kernel
theorem dX7_core_39 : decode cX7_core 39 = .ok (.ifCond .ne 20, 3) := by decide +kernel
theorem dX7_core_42 : decode cX7_core 42 = .ok (.aload_n 0, 1) := by decide +kernel
theorem dX7_core_43 : decode cX7_core 43 = .ok (.iconst 3, 1) := by decide +kernel
theorem dX7_core_44 : decode cX7_core 44 = .ok (.aload_n 0, 1) := by decide +kernel
theorem dX7_core_45 : decode cX7_core 45 = .ok (.iload_n 2, 1) := by decide +kernel
theorem dX7_core_46 : decode cX7_core 46 = .ok (.iconst 1, 1) := by decide +kernel
theorem dX7_core_47 : decode cX7_core 47 = .ok (.iload_n 1, 1) := by decide +kernel
theorem dX7_core_48 : decode cX7_core 48 = .ok (.ishl, 1) := by decide +kernel
theorem dX7_core_49 : decode cX7_core 49 = .ok (.ior, 1) := by decide +kernel
theorem dX7_core_50 : decode cX7_core 50 = .ok (.invokevirtual 153, 3) := by decide +kernel
theorem dX7_core_53 : decode cX7_core 53 = .ok (.invokevirtual 54, 3) := by decide +kernel
theorem dX7_core_56 : decode cX7_core 56 = .ok (.ifCond .eq 5, 3) := by decide +kernel
theorem dX7_core_59 : decode cX7_core 59 = .ok (.iconst 0, 1) := by decide +kernel
theorem dX7_core_60 : decode cX7_core 60 = .ok (.ireturn, 1) := by decide +kernel
theorem dX7_core_61 : decode cX7_core 61 = .ok (.aload_n 0, 1) := by decide +kernel
theorem dX7_core_62 : decode cX7_core 62 = .ok (.iload_n 1, 1) := by decide +kernel
theorem dX7_core_63 : decode cX7_core 63 = .ok (.iload_n 2, 1) := by decide +kernel
theorem dX7_core_64 : decode cX7_core 64 = .ok (.iconst 1, 1) := by decide +kernel
theorem dX7_core_65 : decode cX7_core 65 = .ok (.iload_n 1, 1) := by decide +kernel
theorem dX7_core_66 : decode cX7_core 66 = .ok (.ishl, 1) := by decide +kernel
theorem dX7_core_67 : decode cX7_core 67 = .ok (.iconst (-1), 1) := by decide +kernel
theorem dX7_core_68 : decode cX7_core 68 = .ok (.ixor, 1) := by decide +kernel
theorem dX7_core_69 : decode cX7_core 69 = .ok (.iand, 1) := by decide +kernel
theorem dX7_core_70 : decode cX7_core 70 = .ok (.invokevirtual 165, 3) := by decide +kernel
theorem dX7_core_73 : decode cX7_core 73 = .ok (.ireturn, 1) := by decide +kernel
theorem dX7_stateOf_0 : decode cX7_stateOf 0 = .ok (.aload_n 0, 1) := by decide +kernel
theorem dX7_stateOf_1 : decode cX7_stateOf 1 = .ok (.getfield 9, 3) := by decide +kernel
theorem dX7_stateOf_4 : decode cX7_stateOf 4 = .ok (.sipush 316, 3) := by decide +kernel
theorem dX7_stateOf_7 : decode cX7_stateOf 7 = .ok (.aload_n 0, 1) := by decide +kernel
theorem dX7_stateOf_8 : decode cX7_stateOf 8 = .ok (.getfield 9, 3) := by decide +kernel
theorem dX7_stateOf_11 : decode cX7_stateOf 11 = .ok (.iconst 3, 1) := by decide +kernel
theorem dX7_stateOf_12 : decode cX7_stateOf 12 = .ok (.iaload, 1) := by decide +kernel
theorem dX7_stateOf_13 : decode cX7_stateOf 13 = .ok (.bipush 12, 2) := by decide +kernel
theorem dX7_stateOf_15 : decode cX7_stateOf 15 = .ok (.imul, 1) := by decide +kernel
theorem dX7_stateOf_16 : decode cX7_stateOf 16 = .ok (.iadd, 1) := by decide +kernel
theorem dX7_stateOf_17 : decode cX7_stateOf 17 = .ok (.iload_n 1, 1) := by decide +kernel
theorem dX7_stateOf_18 : decode cX7_stateOf 18 = .ok (.iadd, 1) := by decide +kernel
theorem dX7_stateOf_19 : decode cX7_stateOf 19 = .ok (.iaload, 1) := by decide +kernel
theorem dX7_stateOf_20 : decode cX7_stateOf 20 = .ok (.ireturn, 1) := by decide +kernel
theorem dX7_setState_0 : decode cX7_setState 0 = .ok (.aload_n 0, 1) := by decide +kernel
theorem dX7_setState_1 : decode cX7_setState 1 = .ok (.getfield 9, 3) := by decide +kernel
theorem dX7_setState_4 : decode cX7_setState 4 = .ok (.sipush 316, 3) := by decide +kernel
theorem dX7_setState_7 : decode cX7_setState 7 = .ok (.aload_n 0, 1) := by decide +kernel
theorem dX7_setState_8 : decode cX7_setState 8 = .ok (.getfield 9, 3) := by decide +kernel
theorem dX7_setState_11 : decode cX7_setState 11 = .ok (.iconst 3, 1) := by decide +kernel
theorem dX7_setState_12 : decode cX7_setState 12 = .ok (.iaload, 1) := by decide +kernel
theorem dX7_setState_13 : decode cX7_setState 13 = .ok (.bipush 12, 2) := by decide +kernel
theorem dX7_setState_15 : decode cX7_setState 15 = .ok (.imul, 1) := by decide +kernel
theorem dX7_setState_16 : decode cX7_setState 16 = .ok (.iadd, 1) := by decide +kernel
theorem dX7_setState_17 : decode cX7_setState 17 = .ok (.iload_n 1, 1) := by decide +kernel
theorem dX7_setState_18 : decode cX7_setState 18 = .ok (.iadd, 1) := by decide +kernel
theorem dX7_setState_19 : decode cX7_setState 19 = .ok (.iload_n 2, 1) := by decide +kernel
theorem dX7_setState_20 : decode cX7_setState 20 = .ok (.iastore, 1) := by decide +kernel
theorem dX7_setState_21 : decode cX7_setState 21 = .ok (.return_, 1) := by decide +kernel
theorem dX7_in_0 : decode cX7_in 0 = .ok (.iconst 0, 1) := by decide +kernel
theorem dX7_in_1 : decode cX7_in 1 = .ok (.istore_n 2, 1) := by decide +kernel
theorem dX7_in_2 : decode cX7_in 2 = .ok (.iconst 0, 1) := by decide +kernel
theorem dX7_in_3 : decode cX7_in 3 = .ok (.istore_n 3, 1) := by decide +kernel
theorem dX7_in_4 : decode cX7_in 4 = .ok (.iload_n 3, 1) := by decide +kernel
theorem dX7_in_5 : decode cX7_in 5 = .ok (.aload_n 0, 1) := by decide +kernel
theorem dX7_in_6 : decode cX7_in 6 = .ok (.getfield 9, 3) := by decide +kernel
theorem dX7_in_9 : decode cX7_in 9 = .ok (.iconst 0, 1) := by decide +kernel
theorem dX7_in_10 : decode cX7_in 10 = .ok (.iaload, 1) := by decide +kernel
theorem dX7_in_11 : decode cX7_in 11 = .ok (.if_icmp .ge 28, 3) := by decide +kernel
theorem dX7_in_14 : decode cX7_in 14 = .ok (.iload_n 2, 1) := by decide +kernel
theorem dX7_in_15 : decode cX7_in 15 = .ok (.aload_n 0, 1) := by decide +kernel
theorem dX7_in_16 : decode cX7_in 16 = .ok (.iload_n 3, 1) := by decide +kernel
theorem dX7_in_17 : decode cX7_in 17 = .ok (.invokevirtual 168, 3) := by decide +kernel
theorem dX7_in_20 : decode cX7_in 20 = .ok (.iload_n 1, 1) := by decide +kernel
theorem dX7_in_21 : decode cX7_in 21 = .ok (.if_icmp .ne 9, 3) := by decide +kernel
theorem dX7_in_24 : decode cX7_in 24 = .ok (.iconst 1, 1) := by decide +kernel
theorem dX7_in_25 : decode cX7_in 25 = .ok (.iload_n 3, 1) := by decide +kernel
theorem dX7_in_26 : decode cX7_in 26 = .ok (.ishl, 1) := by decide +kernel
theorem dX7_in_27 : decode cX7_in 27 = .ok (.goto 4, 3) := by decide +kernel
theorem dX7_in_30 : decode cX7_in 30 = .ok (.iconst 0, 1) := by decide +kernel
theorem dX7_in_31 : decode cX7_in 31 = .ok (.ior, 1) := by decide +kernel
theorem dX7_in_32 : decode cX7_in 32 = .ok (.istore_n 2, 1) := by decide +kernel
theorem dX7_in_33 : decode cX7_in 33 = .ok (.iinc 3 1, 3) := by decide +kernel
theorem dX7_in_36 : decode cX7_in 36 = .ok (.goto (-32), 3) := by decide +kernel
theorem dX7_in_39 : decode cX7_in 39 = .ok (.iload_n 2, 1) := by decide +kernel
theorem dX7_in_40 : decode cX7_in 40 = .ok (.ireturn, 1) := by decide +kernel
theorem dX7_outside_0 : decode cX7_outside 0 = .ok (.iconst 0, 1) := by decide +kernel
theorem dX7_outside_1 : decode cX7_outside 1 = .ok (.istore_n 1, 1) := by decide +kernel
theorem dX7_outside_2 : decode cX7_outside 2 = .ok (.iconst 0, 1) := by decide +kernel
theorem dX7_outside_3 : decode cX7_outside 3 = .ok (.istore_n 2, 1) := by decide +kernel
theorem dX7_outside_4 : decode cX7_outside 4 = .ok (.iload_n 2, 1) := by decide +kernel
theorem dX7_outside_5 : decode cX7_outside 5 = .ok (.aload_n 0, 1) := by decide +kernel
theorem dX7_outside_6 : decode cX7_outside 6 = .ok (.getfield 9, 3) := by decide +kernel
theorem dX7_outside_9 : decode cX7_outside 9 = .ok (.iconst 0, 1) := by decide +kernel
theorem dX7_outside_10 : decode cX7_outside 10 = .ok (.iaload, 1) := by decide +kernel
theorem dX7_outside_11 : decode cX7_outside 11 = .ok (.if_icmp .ge 31, 3) := by decide +kernel
theorem dX7_outside_14 : decode cX7_outside 14 = .ok (.iload_n 1, 1) := by decide +kernel
theorem dX7_outside_15 : decode cX7_outside 15 = .ok (.aload_n 0, 1) := by decide +kernel
theorem dX7_outside_16 : decode cX7_outside 16 = .ok (.getfield 9, 3) := by decide +kernel
theorem dX7_outside_19 : decode cX7_outside 19 = .ok (.bipush 40, 2) := by decide +kernel
theorem dX7_outside_21 : decode cX7_outside 21 = .ok (.iload_n 2, 1) := by decide +kernel
theorem dX7_outside_22 : decode cX7_outside 22 = .ok (.iadd, 1) := by decide +kernel
theorem dX7_outside_23 : decode cX7_outside 23 = .ok (.iaload, 1) := by decide +kernel
theorem dX7_outside_24 : decode cX7_outside 24 = .ok (.ifCond .ne 9, 3) := by decide +kernel
theorem dX7_outside_27 : decode cX7_outside 27 = .ok (.iconst 1, 1) := by decide +kernel
theorem dX7_outside_28 : decode cX7_outside 28 = .ok (.iload_n 2, 1) := by decide +kernel
theorem dX7_outside_29 : decode cX7_outside 29 = .ok (.ishl, 1) := by decide +kernel
theorem dX7_outside_30 : decode cX7_outside 30 = .ok (.goto 4, 3) := by decide +kernel
theorem dX7_outside_33 : decode cX7_outside 33 = .ok (.iconst 0, 1) := by decide +kernel
theorem dX7_outside_34 : decode cX7_outside 34 = .ok (.ior, 1) := by decide +kernel
theorem dX7_outside_35 : decode cX7_outside 35 = .ok (.istore_n 1, 1) := by decide +kernel
theorem dX7_outside_36 : decode cX7_outside 36 = .ok (.iinc 2 1, 3) := by decide +kernel
theorem dX7_outside_39 : decode cX7_outside 39 = .ok (.goto (-35), 3) := by decide +kernel
theorem dX7_outside_42 : decode cX7_outside 42 = .ok (.iload_n 1, 1) := by decide +kernel
theorem dX7_outside_43 : decode cX7_outside 43 = .ok (.ireturn, 1) := by decide +kernel
theorem dX7_note_0 : decode cX7_note 0 = .ok (.aload_n 0, 1) := by decide +kernel
theorem dX7_note_1 : decode cX7_note 1 = .ok (.getfield 9, 3) := by decide +kernel
theorem dX7_note_4 : decode cX7_note 4 = .ok (.bipush 100, 2) := by decide +kernel
theorem dX7_note_6 : decode cX7_note 6 = .ok (.aload_n 0, 1) := by decide +kernel
theorem dX7_note_7 : decode cX7_note 7 = .ok (.getfield 9, 3) := by decide +kernel
theorem dX7_note_10 : decode cX7_note 10 = .ok (.sipush 214, 3) := by decide +kernel
theorem dX7_note_13 : decode cX7_note 13 = .ok (.aload_n 0, 1) := by decide +kernel
theorem dX7_note_14 : decode cX7_note 14 = .ok (.getfield 9, 3) := by decide +kernel
theorem dX7_note_17 : decode cX7_note 17 = .ok (.iconst 3, 1) := by decide +kernel
theorem dX7_note_18 : decode cX7_note 18 = .ok (.iaload, 1) := by decide +kernel
theorem dX7_note_19 : decode cX7_note 19 = .ok (.iadd, 1) := by decide +kernel
theorem dX7_note_20 : decode cX7_note 20 = .ok (.iaload, 1) := by decide +kernel
theorem dX7_note_21 : decode cX7_note 21 = .ok (.iadd, 1) := by decide +kernel
theorem dX7_note_22 : decode cX7_note 22 = .ok (.sipush 1000, 3) := by decide +kernel
theorem dX7_note_25 : decode cX7_note 25 = .ok (.aload_n 0, 1) := by decide +kernel
theorem dX7_note_26 : decode cX7_note 26 = .ok (.getfield 9, 3) := by decide +kernel
theorem dX7_note_29 : decode cX7_note 29 = .ok (.iconst 3, 1) := by decide +kernel
theorem dX7_note_30 : decode cX7_note 30 = .ok (.iaload, 1) := by decide +kernel
theorem dX7_note_31 : decode cX7_note 31 = .ok (.imul, 1) := by decide +kernel
theorem dX7_note_32 : decode cX7_note 32 = .ok (.bipush 10, 2) := by decide +kernel
theorem dX7_note_34 : decode cX7_note 34 = .ok (.iload_n 1, 1) := by decide +kernel
theorem dX7_note_35 : decode cX7_note 35 = .ok (.imul, 1) := by decide +kernel
theorem dX7_note_36 : decode cX7_note 36 = .ok (.iadd, 1) := by decide +kernel
theorem dX7_note_37 : decode cX7_note 37 = .ok (.iload_n 2, 1) := by decide +kernel
theorem dX7_note_38 : decode cX7_note 38 = .ok (.iadd, 1) := by decide +kernel
theorem dX7_note_39 : decode cX7_note 39 = .ok (.iastore, 1) := by decide +kernel
theorem dX7_note_40 : decode cX7_note 40 = .ok (.aload_n 0, 1) := by decide +kernel
theorem dX7_note_41 : decode cX7_note 41 = .ok (.getfield 9, 3) := by decide +kernel
theorem dX7_note_44 : decode cX7_note 44 = .ok (.sipush 214, 3) := by decide +kernel
theorem dX7_note_47 : decode cX7_note 47 = .ok (.aload_n 0, 1) := by decide +kernel
theorem dX7_note_48 : decode cX7_note 48 = .ok (.getfield 9, 3) := by decide +kernel
theorem dX7_note_51 : decode cX7_note 51 = .ok (.iconst 3, 1) := by decide +kernel
theorem dX7_note_52 : decode cX7_note 52 = .ok (.iaload, 1) := by decide +kernel
theorem dX7_note_53 : decode cX7_note 53 = .ok (.iadd, 1) := by decide +kernel
theorem dX7_note_54 : decode cX7_note 54 = .ok (.dup2, 1) := by decide +kernel
theorem dX7_note_55 : decode cX7_note 55 = .ok (.iaload, 1) := by decide +kernel
theorem dX7_note_56 : decode cX7_note 56 = .ok (.iconst 1, 1) := by decide +kernel
theorem dX7_note_57 : decode cX7_note 57 = .ok (.iadd, 1) := by decide +kernel
theorem dX7_note_58 : decode cX7_note 58 = .ok (.iastore, 1) := by decide +kernel
theorem dX7_note_59 : decode cX7_note 59 = .ok (.return_, 1) := by decide +kernel
theorem dX7_ranked_0 : decode cX7_ranked 0 = .ok (.iconst 0, 1) := by decide +kernel
theorem dX7_ranked_1 : decode cX7_ranked 1 = .ok (.istore_n 2, 1) := by decide +kernel
theorem dX7_ranked_2 : decode cX7_ranked 2 = .ok (.iload_n 2, 1) := by decide +kernel
theorem dX7_ranked_3 : decode cX7_ranked 3 = .ok (.aload_n 0, 1) := by decide +kernel
theorem dX7_ranked_4 : decode cX7_ranked 4 = .ok (.getfield 9, 3) := by decide +kernel
theorem dX7_ranked_7 : decode cX7_ranked 7 = .ok (.iconst 0, 1) := by decide +kernel
theorem dX7_ranked_8 : decode cX7_ranked 8 = .ok (.iaload, 1) := by decide +kernel
theorem dX7_ranked_9 : decode cX7_ranked 9 = .ok (.if_icmp .ge 121, 3) := by decide +kernel
theorem dX7_ranked_12 : decode cX7_ranked 12 = .ok (.iconst 0, 1) := by decide +kernel
theorem dX7_ranked_13 : decode cX7_ranked 13 = .ok (.istore_n 3, 1) := by decide +kernel
theorem dX7_ranked_14 : decode cX7_ranked 14 = .ok (.iconst 0, 1) := by decide +kernel
theorem dX7_ranked_15 : decode cX7_ranked 15 = .ok (.istore 4, 2) := by decide +kernel
theorem dX7_ranked_17 : decode cX7_ranked 17 = .ok (.iload 4, 2) := by decide +kernel
theorem dX7_ranked_19 : decode cX7_ranked 19 = .ok (.aload_n 0, 1) := by decide +kernel
theorem dX7_ranked_20 : decode cX7_ranked 20 = .ok (.getfield 9, 3) := by decide +kernel
theorem dX7_ranked_23 : decode cX7_ranked 23 = .ok (.iconst 0, 1) := by decide +kernel
theorem dX7_ranked_24 : decode cX7_ranked 24 = .ok (.iaload, 1) := by decide +kernel
theorem dX7_ranked_25 : decode cX7_ranked 25 = .ok (.if_icmp .ge 79, 3) := by decide +kernel
theorem dX7_ranked_28 : decode cX7_ranked 28 = .ok (.aload_n 0, 1) := by decide +kernel
theorem dX7_ranked_29 : decode cX7_ranked 29 = .ok (.iload 4, 2) := by decide +kernel
theorem dX7_ranked_31 : decode cX7_ranked 31 = .ok (.invokevirtual 116, 3) := by decide +kernel
theorem dX7_ranked_34 : decode cX7_ranked 34 = .ok (.aload_n 0, 1) := by decide +kernel
theorem dX7_ranked_35 : decode cX7_ranked 35 = .ok (.iload_n 2, 1) := by decide +kernel
theorem dX7_ranked_36 : decode cX7_ranked 36 = .ok (.invokevirtual 116, 3) := by decide +kernel
theorem dX7_ranked_39 : decode cX7_ranked 39 = .ok (.fcmp .l, 1) := by decide +kernel
theorem dX7_ranked_40 : decode cX7_ranked 40 = .ok (.ifCond .gt 24, 3) := by decide +kernel
theorem dX7_ranked_43 : decode cX7_ranked 43 = .ok (.aload_n 0, 1) := by decide +kernel
theorem dX7_ranked_44 : decode cX7_ranked 44 = .ok (.iload 4, 2) := by decide +kernel
theorem dX7_ranked_46 : decode cX7_ranked 46 = .ok (.invokevirtual 116, 3) := by decide +kernel
theorem dX7_ranked_49 : decode cX7_ranked 49 = .ok (.aload_n 0, 1) := by decide +kernel
theorem dX7_ranked_50 : decode cX7_ranked 50 = .ok (.iload_n 2, 1) := by decide +kernel
theorem dX7_ranked_51 : decode cX7_ranked 51 = .ok (.invokevirtual 116, 3) := by decide +kernel
theorem dX7_ranked_54 : decode cX7_ranked 54 = .ok (.fcmp .l, 1) := by decide +kernel
theorem dX7_ranked_55 : decode cX7_ranked 55 = .ok (.ifCond .ne 13, 3) := by decide +kernel
theorem dX7_ranked_58 : decode cX7_ranked 58 = .ok (.iload 4, 2) := by decide +kernel
theorem dX7_ranked_60 : decode cX7_ranked 60 = .ok (.iload_n 2, 1) := by decide +kernel
theorem dX7_ranked_61 : decode cX7_ranked 61 = .ok (.if_icmp .ge 7, 3) := by decide +kernel
theorem dX7_ranked_64 : decode cX7_ranked 64 = .ok (.iconst 1, 1) := by decide +kernel
theorem dX7_ranked_65 : decode cX7_ranked 65 = .ok (.goto 4, 3) := by decide +kernel
theorem dX7_ranked_68 : decode cX7_ranked 68 = .ok (.iconst 0, 1) := by decide +kernel
theorem dX7_ranked_69 : decode cX7_ranked 69 = .ok (.istore 5, 2) := by decide +kernel
theorem dX7_ranked_71 : decode cX7_ranked 71 = .ok (.iload_n 3, 1) := by decide +kernel
theorem dX7_ranked_72 : decode cX7_ranked 72 = .ok (.aload_n 0, 1) := by decide +kernel
theorem dX7_ranked_73 : decode cX7_ranked 73 = .ok (.getfield 9, 3) := by decide +kernel
theorem dX7_ranked_76 : decode cX7_ranked 76 = .ok (.bipush 40, 2) := by decide +kernel
theorem dX7_ranked_78 : decode cX7_ranked 78 = .ok (.iload 4, 2) := by decide +kernel
theorem dX7_ranked_80 : decode cX7_ranked 80 = .ok (.iadd, 1) := by decide +kernel
theorem dX7_ranked_81 : decode cX7_ranked 81 = .ok (.iaload, 1) := by decide +kernel
theorem dX7_ranked_82 : decode cX7_ranked 82 = .ok (.iconst 1, 1) := by decide +kernel
theorem dX7_ranked_83 : decode cX7_ranked 83 = .ok (.if_icmp .ne 12, 3) := by decide +kernel
theorem dX7_ranked_86 : decode cX7_ranked 86 = .ok (.iload 5, 2) := by decide +kernel
theorem dX7_ranked_88 : decode cX7_ranked 88 = .ok (.ifCond .eq 7, 3) := by decide +kernel
theorem dX7_ranked_91 : decode cX7_ranked 91 = .ok (.iconst 1, 1) := by decide +kernel
theorem dX7_ranked_92 : decode cX7_ranked 92 = .ok (.goto 4, 3) := by decide +kernel
theorem dX7_ranked_95 : decode cX7_ranked 95 = .ok (.iconst 0, 1) := by decide +kernel
theorem dX7_ranked_96 : decode cX7_ranked 96 = .ok (.iadd, 1) := by decide +kernel
theorem dX7_ranked_97 : decode cX7_ranked 97 = .ok (.istore_n 3, 1) := by decide +kernel
theorem dX7_ranked_98 : decode cX7_ranked 98 = .ok (.iinc 4 1, 3) := by decide +kernel
theorem dX7_ranked_101 : decode cX7_ranked 101 = .ok (.goto (-84), 3) := by decide +kernel
theorem dX7_ranked_104 : decode cX7_ranked 104 = .ok (.aload_n 0, 1) := by decide +kernel
theorem dX7_ranked_105 : decode cX7_ranked 105 = .ok (.getfield 9, 3) := by decide +kernel
theorem dX7_ranked_108 : decode cX7_ranked 108 = .ok (.bipush 40, 2) := by decide +kernel
theorem dX7_ranked_110 : decode cX7_ranked 110 = .ok (.iload_n 2, 1) := by decide +kernel
theorem dX7_ranked_111 : decode cX7_ranked 111 = .ok (.iadd, 1) := by decide +kernel
theorem dX7_ranked_112 : decode cX7_ranked 112 = .ok (.iaload, 1) := by decide +kernel
theorem dX7_ranked_113 : decode cX7_ranked 113 = .ok (.iconst 1, 1) := by decide +kernel
theorem dX7_ranked_114 : decode cX7_ranked 114 = .ok (.if_icmp .ne 10, 3) := by decide +kernel
theorem dX7_ranked_117 : decode cX7_ranked 117 = .ok (.iload_n 3, 1) := by decide +kernel
theorem dX7_ranked_118 : decode cX7_ranked 118 = .ok (.iload_n 1, 1) := by decide +kernel
theorem dX7_ranked_119 : decode cX7_ranked 119 = .ok (.if_icmp .ne 5, 3) := by decide +kernel
theorem dX7_ranked_122 : decode cX7_ranked 122 = .ok (.iload_n 2, 1) := by decide +kernel
theorem dX7_ranked_123 : decode cX7_ranked 123 = .ok (.ireturn, 1) := by decide +kernel
theorem dX7_ranked_124 : decode cX7_ranked 124 = .ok (.iinc 2 1, 3) := by decide +kernel
theorem dX7_ranked_127 : decode cX7_ranked 127 = .ok (.goto (-125), 3) := by decide +kernel
theorem dX7_ranked_130 : decode cX7_ranked 130 = .ok (.iconst (-1), 1) := by decide +kernel
theorem dX7_ranked_131 : decode cX7_ranked 131 = .ok (.ireturn, 1) := by decide +kernel
theorem dX7_consider_0 : decode cX7_consider 0 = .ok (.aload_n 0, 1) := by decide +kernel
theorem dX7_consider_1 : decode cX7_consider 1 = .ok (.iconst 0, 1) := by decide +kernel
theorem dX7_consider_2 : decode cX7_consider 2 = .ok (.invokevirtual 171, 3) := by decide +kernel
theorem dX7_consider_5 : decode cX7_consider 5 = .ok (.istore_n 2, 1) := by decide +kernel
theorem dX7_consider_6 : decode cX7_consider 6 = .ok (.aload_n 0, 1) := by decide +kernel
theorem dX7_consider_7 : decode cX7_consider 7 = .ok (.iload_n 2, 1) := by decide +kernel
theorem dX7_consider_8 : decode cX7_consider 8 = .ok (.iconst 1, 1) := by decide +kernel
theorem dX7_consider_9 : decode cX7_consider 9 = .ok (.iload_n 1, 1) := by decide +kernel
theorem dX7_consider_10 : decode cX7_consider 10 = .ok (.ishl, 1) := by decide +kernel
theorem dX7_consider_11 : decode cX7_consider 11 = .ok (.ior, 1) := by decide +kernel
theorem dX7_consider_12 : decode cX7_consider 12 = .ok (.invokevirtual 153, 3) := by decide +kernel
theorem dX7_consider_15 : decode cX7_consider 15 = .ok (.ifCond .ne 31, 3) := by decide +kernel
theorem dX7_consider_18 : decode cX7_consider 18 = .ok (.aload_n 0, 1) := by decide +kernel
theorem dX7_consider_19 : decode cX7_consider 19 = .ok (.iload_n 1, 1) := by decide +kernel
theorem dX7_consider_20 : decode cX7_consider 20 = .ok (.iconst 2, 1) := by decide +kernel
theorem dX7_consider_21 : decode cX7_consider 21 = .ok (.invokevirtual 174, 3) := by decide +kernel
theorem dX7_consider_24 : decode cX7_consider 24 = .ok (.aload_n 0, 1) := by decide +kernel
theorem dX7_consider_25 : decode cX7_consider 25 = .ok (.getfield 9, 3) := by decide +kernel
theorem dX7_consider_28 : decode cX7_consider 28 = .ok (.bipush 88, 2) := by decide +kernel
theorem dX7_consider_30 : decode cX7_consider 30 = .ok (.iload_n 1, 1) := by decide +kernel
theorem dX7_consider_31 : decode cX7_consider 31 = .ok (.iadd, 1) := by decide +kernel
theorem dX7_consider_32 : decode cX7_consider 32 = .ok (.aload_n 0, 1) := by decide +kernel
theorem dX7_consider_33 : decode cX7_consider 33 = .ok (.iload_n 1, 1) := by decide +kernel
theorem dX7_consider_34 : decode cX7_consider 34 = .ok (.iload_n 2, 1) := by decide +kernel
theorem dX7_consider_35 : decode cX7_consider 35 = .ok (.invokevirtual 165, 3) := by decide +kernel
theorem dX7_consider_38 : decode cX7_consider 38 = .ok (.iastore, 1) := by decide +kernel
theorem dX7_consider_39 : decode cX7_consider 39 = .ok (.aload_n 0, 1) := by decide +kernel
theorem dX7_consider_40 : decode cX7_consider 40 = .ok (.iload_n 1, 1) := by decide +kernel
theorem dX7_consider_41 : decode cX7_consider 41 = .ok (.iconst 1, 1) := by decide +kernel
theorem dX7_consider_42 : decode cX7_consider 42 = .ok (.invokevirtual 177, 3) := by decide +kernel
theorem dX7_consider_45 : decode cX7_consider 45 = .ok (.return_, 1) := by decide +kernel
theorem dX7_consider_46 : decode cX7_consider 46 = .ok (.aload_n 0, 1) := by decide +kernel
theorem dX7_consider_47 : decode cX7_consider 47 = .ok (.iload_n 1, 1) := by decide +kernel
theorem dX7_consider_48 : decode cX7_consider 48 = .ok (.aload_n 0, 1) := by decide +kernel
theorem dX7_consider_49 : decode cX7_consider 49 = .ok (.getfield 9, 3) := by decide +kernel
theorem dX7_consider_52 : decode cX7_consider 52 = .ok (.bipush 112, 2) := by decide +kernel
theorem dX7_consider_54 : decode cX7_consider 54 = .ok (.aload_n 0, 1) := by decide +kernel
theorem dX7_consider_55 : decode cX7_consider 55 = .ok (.getfield 9, 3) := by decide +kernel
theorem dX7_consider_58 : decode cX7_consider 58 = .ok (.iconst 3, 1) := by decide +kernel
theorem dX7_consider_59 : decode cX7_consider 59 = .ok (.iaload, 1) := by decide +kernel
theorem dX7_consider_60 : decode cX7_consider 60 = .ok (.iadd, 1) := by decide +kernel
theorem dX7_consider_61 : decode cX7_consider 61 = .ok (.iaload, 1) := by decide +kernel
theorem dX7_consider_62 : decode cX7_consider 62 = .ok (.invokevirtual 126, 3) := by decide +kernel
theorem dX7_consider_65 : decode cX7_consider 65 = .ok (.istore_n 3, 1) := by decide +kernel
theorem dX7_consider_66 : decode cX7_consider 66 = .ok (.iload_n 3, 1) := by decide +kernel
theorem dX7_consider_67 : decode cX7_consider 67 = .ok (.aload_n 0, 1) := by decide +kernel
theorem dX7_consider_68 : decode cX7_consider 68 = .ok (.getfield 9, 3) := by decide +kernel
theorem dX7_consider_71 : decode cX7_consider 71 = .ok (.bipush 16, 2) := by decide +kernel
theorem dX7_consider_73 : decode cX7_consider 73 = .ok (.iload_n 1, 1) := by decide +kernel
theorem dX7_consider_74 : decode cX7_consider 74 = .ok (.iadd, 1) := by decide +kernel
theorem dX7_consider_75 : decode cX7_consider 75 = .ok (.iaload, 1) := by decide +kernel
theorem dX7_consider_76 : decode cX7_consider 76 = .ok (.if_icmp .ge 18, 3) := by decide +kernel
theorem dX7_consider_79 : decode cX7_consider 79 = .ok (.aload_n 0, 1) := by decide +kernel
theorem dX7_consider_80 : decode cX7_consider 80 = .ok (.iload_n 1, 1) := by decide +kernel
theorem dX7_consider_81 : decode cX7_consider 81 = .ok (.iconst 0, 1) := by decide +kernel
theorem dX7_consider_82 : decode cX7_consider 82 = .ok (.invokevirtual 174, 3) := by decide +kernel
theorem dX7_consider_85 : decode cX7_consider 85 = .ok (.aload_n 0, 1) := by decide +kernel
theorem dX7_consider_86 : decode cX7_consider 86 = .ok (.iload_n 1, 1) := by decide +kernel
theorem dX7_consider_87 : decode cX7_consider 87 = .ok (.iconst 0, 1) := by decide +kernel
theorem dX7_consider_88 : decode cX7_consider 88 = .ok (.invokevirtual 177, 3) := by decide +kernel
theorem dX7_consider_91 : decode cX7_consider 91 = .ok (.goto 24, 3) := by decide +kernel
theorem dX7_consider_94 : decode cX7_consider 94 = .ok (.aload_n 0, 1) := by decide +kernel
theorem dX7_consider_95 : decode cX7_consider 95 = .ok (.getfield 9, 3) := by decide +kernel
theorem dX7_consider_98 : decode cX7_consider 98 = .ok (.sipush 1540, 3) := by decide +kernel
theorem dX7_consider_101 : decode cX7_consider 101 = .ok (.aload_n 0, 1) := by decide +kernel
theorem dX7_consider_102 : decode cX7_consider 102 = .ok (.getfield 9, 3) := by decide +kernel
theorem dX7_consider_105 : decode cX7_consider 105 = .ok (.iconst 3, 1) := by decide +kernel
theorem dX7_consider_106 : decode cX7_consider 106 = .ok (.iaload, 1) := by decide +kernel
theorem dX7_consider_107 : decode cX7_consider 107 = .ok (.bipush 12, 2) := by decide +kernel
theorem dX7_consider_109 : decode cX7_consider 109 = .ok (.imul, 1) := by decide +kernel
theorem dX7_consider_110 : decode cX7_consider 110 = .ok (.iadd, 1) := by decide +kernel
theorem dX7_consider_111 : decode cX7_consider 111 = .ok (.iload_n 1, 1) := by decide +kernel
theorem dX7_consider_112 : decode cX7_consider 112 = .ok (.iadd, 1) := by decide +kernel
theorem dX7_consider_113 : decode cX7_consider 113 = .ok (.iload_n 3, 1) := by decide +kernel
theorem dX7_consider_114 : decode cX7_consider 114 = .ok (.iastore, 1) := by decide +kernel
theorem dX7_consider_115 : decode cX7_consider 115 = .ok (.return_, 1) := by decide +kernel
theorem dX7_considerAll_0 : decode cX7_considerAll 0 = .ok (.iconst 0, 1) := by decide +kernel
theorem dX7_considerAll_1 : decode cX7_considerAll 1 = .ok (.istore_n 1, 1) := by decide +kernel
theorem dX7_considerAll_2 : decode cX7_considerAll 2 = .ok (.aload_n 0, 1) := by decide +kernel
theorem dX7_considerAll_3 : decode cX7_considerAll 3 = .ok (.iload_n 1, 1) := by decide +kernel
theorem dX7_considerAll_4 : decode cX7_considerAll 4 = .ok (.invokevirtual 180, 3) := by decide +kernel
theorem dX7_considerAll_7 : decode cX7_considerAll 7 = .ok (.ifCond .lt 31, 3) := by decide +kernel
theorem dX7_considerAll_10 : decode cX7_considerAll 10 = .ok (.aload_n 0, 1) := by decide +kernel
theorem dX7_considerAll_11 : decode cX7_considerAll 11 = .ok (.aload_n 0, 1) := by decide +kernel
theorem dX7_considerAll_12 : decode cX7_considerAll 12 = .ok (.iload_n 1, 1) := by decide +kernel
theorem dX7_considerAll_13 : decode cX7_considerAll 13 = .ok (.invokevirtual 180, 3) := by decide +kernel
theorem dX7_considerAll_16 : decode cX7_considerAll 16 = .ok (.invokevirtual 168, 3) := by decide +kernel
theorem dX7_considerAll_19 : decode cX7_considerAll 19 = .ok (.iconst 1, 1) := by decide +kernel
theorem dX7_considerAll_20 : decode cX7_considerAll 20 = .ok (.if_icmp .ne 12, 3) := by decide +kernel
theorem dX7_considerAll_23 : decode cX7_considerAll 23 = .ok (.aload_n 0, 1) := by decide +kernel
theorem dX7_considerAll_24 : decode cX7_considerAll 24 = .ok (.aload_n 0, 1) := by decide +kernel
theorem dX7_considerAll_25 : decode cX7_considerAll 25 = .ok (.iload_n 1, 1) := by decide +kernel
theorem dX7_considerAll_26 : decode cX7_considerAll 26 = .ok (.invokevirtual 180, 3) := by decide +kernel
theorem dX7_considerAll_29 : decode cX7_considerAll 29 = .ok (.invokevirtual 183, 3) := by decide +kernel
theorem dX7_considerAll_32 : decode cX7_considerAll 32 = .ok (.iinc 1 1, 3) := by decide +kernel
theorem dX7_considerAll_35 : decode cX7_considerAll 35 = .ok (.goto (-33), 3) := by decide +kernel
theorem dX7_considerAll_38 : decode cX7_considerAll 38 = .ok (.iconst 0, 1) := by decide +kernel
theorem dX7_considerAll_39 : decode cX7_considerAll 39 = .ok (.istore_n 1, 1) := by decide +kernel
theorem dX7_considerAll_40 : decode cX7_considerAll 40 = .ok (.iload_n 1, 1) := by decide +kernel
theorem dX7_considerAll_41 : decode cX7_considerAll 41 = .ok (.aload_n 0, 1) := by decide +kernel
theorem dX7_considerAll_42 : decode cX7_considerAll 42 = .ok (.getfield 9, 3) := by decide +kernel
theorem dX7_considerAll_45 : decode cX7_considerAll 45 = .ok (.iconst 0, 1) := by decide +kernel
theorem dX7_considerAll_46 : decode cX7_considerAll 46 = .ok (.iaload, 1) := by decide +kernel
theorem dX7_considerAll_47 : decode cX7_considerAll 47 = .ok (.if_icmp .ge 57, 3) := by decide +kernel
theorem dX7_considerAll_50 : decode cX7_considerAll 50 = .ok (.aload_n 0, 1) := by decide +kernel
theorem dX7_considerAll_51 : decode cX7_considerAll 51 = .ok (.getfield 9, 3) := by decide +kernel
theorem dX7_considerAll_54 : decode cX7_considerAll 54 = .ok (.bipush 112, 2) := by decide +kernel
theorem dX7_considerAll_56 : decode cX7_considerAll 56 = .ok (.aload_n 0, 1) := by decide +kernel
theorem dX7_considerAll_57 : decode cX7_considerAll 57 = .ok (.getfield 9, 3) := by decide +kernel
theorem dX7_considerAll_60 : decode cX7_considerAll 60 = .ok (.iconst 3, 1) := by decide +kernel
theorem dX7_considerAll_61 : decode cX7_considerAll 61 = .ok (.iaload, 1) := by decide +kernel
theorem dX7_considerAll_62 : decode cX7_considerAll 62 = .ok (.iadd, 1) := by decide +kernel
theorem dX7_considerAll_63 : decode cX7_considerAll 63 = .ok (.iaload, 1) := by decide +kernel
theorem dX7_considerAll_64 : decode cX7_considerAll 64 = .ok (.ifCond .ne 40, 3) := by decide +kernel
theorem dX7_considerAll_67 : decode cX7_considerAll 67 = .ok (.aload_n 0, 1) := by decide +kernel
theorem dX7_considerAll_68 : decode cX7_considerAll 68 = .ok (.iload_n 1, 1) := by decide +kernel
theorem dX7_considerAll_69 : decode cX7_considerAll 69 = .ok (.invokevirtual 168, 3) := by decide +kernel
theorem dX7_considerAll_72 : decode cX7_considerAll 72 = .ok (.iconst 1, 1) := by decide +kernel
theorem dX7_considerAll_73 : decode cX7_considerAll 73 = .ok (.if_icmp .ne 25, 3) := by decide +kernel
theorem dX7_considerAll_76 : decode cX7_considerAll 76 = .ok (.aload_n 0, 1) := by decide +kernel
theorem dX7_considerAll_77 : decode cX7_considerAll 77 = .ok (.iload_n 1, 1) := by decide +kernel
theorem dX7_considerAll_78 : decode cX7_considerAll 78 = .ok (.iconst 2, 1) := by decide +kernel
theorem dX7_considerAll_79 : decode cX7_considerAll 79 = .ok (.invokevirtual 174, 3) := by decide +kernel
theorem dX7_considerAll_82 : decode cX7_considerAll 82 = .ok (.aload_n 0, 1) := by decide +kernel
theorem dX7_considerAll_83 : decode cX7_considerAll 83 = .ok (.getfield 9, 3) := by decide +kernel
theorem dX7_considerAll_86 : decode cX7_considerAll 86 = .ok (.bipush 88, 2) := by decide +kernel
theorem dX7_considerAll_88 : decode cX7_considerAll 88 = .ok (.iload_n 1, 1) := by decide +kernel
theorem dX7_considerAll_89 : decode cX7_considerAll 89 = .ok (.iadd, 1) := by decide +kernel
theorem dX7_considerAll_90 : decode cX7_considerAll 90 = .ok (.iconst (-1), 1) := by decide +kernel
theorem dX7_considerAll_91 : decode cX7_considerAll 91 = .ok (.iastore, 1) := by decide +kernel
theorem dX7_considerAll_92 : decode cX7_considerAll 92 = .ok (.aload_n 0, 1) := by decide +kernel
theorem dX7_considerAll_93 : decode cX7_considerAll 93 = .ok (.iload_n 1, 1) := by decide +kernel
theorem dX7_considerAll_94 : decode cX7_considerAll 94 = .ok (.iconst 2, 1) := by decide +kernel
theorem dX7_considerAll_95 : decode cX7_considerAll 95 = .ok (.invokevirtual 177, 3) := by decide +kernel
theorem dX7_considerAll_98 : decode cX7_considerAll 98 = .ok (.iinc 1 1, 3) := by decide +kernel
theorem dX7_considerAll_101 : decode cX7_considerAll 101 = .ok (.goto (-61), 3) := by decide +kernel
theorem dX7_considerAll_104 : decode cX7_considerAll 104 = .ok (.return_, 1) := by decide +kernel
theorem dX7_open_0 : decode cX7_open 0 = .ok (.aload_n 0, 1) := by decide +kernel
theorem dX7_open_1 : decode cX7_open 1 = .ok (.iconst 1, 1) := by decide +kernel
theorem dX7_open_2 : decode cX7_open 2 = .ok (.iload_n 1, 1) := by decide +kernel
theorem dX7_open_3 : decode cX7_open 3 = .ok (.iconst 1, 1) := by decide +kernel
theorem dX7_open_4 : decode cX7_open 4 = .ok (.sipush 1000, 3) := by decide +kernel
theorem dX7_open_7 : decode cX7_open 7 = .ok (.invokestatic 46, 3) := by decide +kernel
theorem dX7_open_10 : decode cX7_open 10 = .ok (.ifCond .ne 7, 3) := by decide +kernel
theorem dX7_open_13 : decode cX7_open 13 = .ok (.iconst 1, 1) := by decide +kernel
theorem dX7_open_14 : decode cX7_open 14 = .ok (.goto 4, 3) := by decide +kernel
theorem dX7_open_17 : decode cX7_open 17 = .ok (.iconst 0, 1) := by decide +kernel
theorem dX7_open_18 : decode cX7_open 18 = .ok (.invokevirtual 54, 3) := by decide +kernel
theorem dX7_open_21 : decode cX7_open 21 = .ok (.ifCond .ne 39, 3) := by decide +kernel
theorem dX7_open_24 : decode cX7_open 24 = .ok (.aload_n 0, 1) := by decide +kernel
theorem dX7_open_25 : decode cX7_open 25 = .ok (.iconst 2, 1) := by decide +kernel
theorem dX7_open_26 : decode cX7_open 26 = .ok (.aload_n 0, 1) := by decide +kernel
theorem dX7_open_27 : decode cX7_open 27 = .ok (.invokevirtual 58, 3) := by decide +kernel
theorem dX7_open_30 : decode cX7_open 30 = .ok (.invokevirtual 54, 3) := by decide +kernel
theorem dX7_open_33 : decode cX7_open 33 = .ok (.ifCond .ne 27, 3) := by decide +kernel
theorem dX7_open_36 : decode cX7_open 36 = .ok (.aload_n 0, 1) := by decide +kernel
theorem dX7_open_37 : decode cX7_open 37 = .ok (.iconst 3, 1) := by decide +kernel
theorem dX7_open_38 : decode cX7_open 38 = .ok (.aload_n 0, 1) := by decide +kernel
theorem dX7_open_39 : decode cX7_open 39 = .ok (.aload_n 0, 1) := by decide +kernel
theorem dX7_open_40 : decode cX7_open 40 = .ok (.invokevirtual 186, 3) := by decide +kernel
theorem dX7_open_43 : decode cX7_open 43 = .ok (.invokevirtual 153, 3) := by decide +kernel
theorem dX7_open_46 : decode cX7_open 46 = .ok (.ifCond .ne 7, 3) := by decide +kernel
theorem dX7_open_49 : decode cX7_open 49 = .ok (.iconst 1, 1) := by decide +kernel
theorem dX7_open_50 : decode cX7_open 50 = .ok (.goto 4, 3) := by decide +kernel
theorem dX7_open_53 : decode cX7_open 53 = .ok (.iconst 0, 1) := by decide +kernel
theorem dX7_open_54 : decode cX7_open 54 = .ok (.invokevirtual 54, 3) := by decide +kernel
theorem dX7_open_57 : decode cX7_open 57 = .ok (.ifCond .eq 5, 3) := by decide +kernel
theorem dX7_open_60 : decode cX7_open 60 = .ok (.iconst 0, 1) := by decide +kernel
theorem dX7_open_61 : decode cX7_open 61 = .ok (.ireturn, 1) := by decide +kernel
theorem dX7_open_62 : decode cX7_open 62 = .ok (.aload_n 0, 1) := by decide +kernel
theorem dX7_open_63 : decode cX7_open 63 = .ok (.getfield 9, 3) := by decide +kernel
theorem dX7_open_66 : decode cX7_open 66 = .ok (.iconst 2, 1) := by decide +kernel
theorem dX7_open_67 : decode cX7_open 67 = .ok (.iconst 1, 1) := by decide +kernel
theorem dX7_open_68 : decode cX7_open 68 = .ok (.iastore, 1) := by decide +kernel
theorem dX7_open_69 : decode cX7_open 69 = .ok (.aload_n 0, 1) := by decide +kernel
theorem dX7_open_70 : decode cX7_open 70 = .ok (.getfield 9, 3) := by decide +kernel
theorem dX7_open_73 : decode cX7_open 73 = .ok (.iconst 3, 1) := by decide +kernel
theorem dX7_open_74 : decode cX7_open 74 = .ok (.iconst 0, 1) := by decide +kernel
theorem dX7_open_75 : decode cX7_open 75 = .ok (.iastore, 1) := by decide +kernel
theorem dX7_open_76 : decode cX7_open 76 = .ok (.aload_n 0, 1) := by decide +kernel
theorem dX7_open_77 : decode cX7_open 77 = .ok (.getfield 9, 3) := by decide +kernel
theorem dX7_open_80 : decode cX7_open 80 = .ok (.bipush 112, 2) := by decide +kernel
theorem dX7_open_82 : decode cX7_open 82 = .ok (.iload_n 1, 1) := by decide +kernel
theorem dX7_open_83 : decode cX7_open 83 = .ok (.iastore, 1) := by decide +kernel
theorem dX7_open_84 : decode cX7_open 84 = .ok (.aload_n 0, 1) := by decide +kernel
theorem dX7_open_85 : decode cX7_open 85 = .ok (.getfield 9, 3) := by decide +kernel
theorem dX7_open_88 : decode cX7_open 88 = .ok (.sipush 214, 3) := by decide +kernel
theorem dX7_open_91 : decode cX7_open 91 = .ok (.iconst 0, 1) := by decide +kernel
theorem dX7_open_92 : decode cX7_open 92 = .ok (.iastore, 1) := by decide +kernel
theorem dX7_open_93 : decode cX7_open 93 = .ok (.iconst 0, 1) := by decide +kernel
theorem dX7_open_94 : decode cX7_open 94 = .ok (.istore_n 2, 1) := by decide +kernel
theorem dX7_open_95 : decode cX7_open 95 = .ok (.iload_n 2, 1) := by decide +kernel
theorem dX7_open_96 : decode cX7_open 96 = .ok (.aload_n 0, 1) := by decide +kernel
theorem dX7_open_97 : decode cX7_open 97 = .ok (.getfield 9, 3) := by decide +kernel
theorem dX7_open_100 : decode cX7_open 100 = .ok (.iconst 0, 1) := by decide +kernel
theorem dX7_open_101 : decode cX7_open 101 = .ok (.iaload, 1) := by decide +kernel
theorem dX7_open_102 : decode cX7_open 102 = .ok (.if_icmp .ge 48, 3) := by decide +kernel
theorem dX7_open_105 : decode cX7_open 105 = .ok (.aload_n 0, 1) := by decide +kernel
theorem dX7_open_106 : decode cX7_open 106 = .ok (.iload_n 2, 1) := by decide +kernel
theorem dX7_open_107 : decode cX7_open 107 = .ok (.aload_n 0, 1) := by decide +kernel
theorem dX7_open_108 : decode cX7_open 108 = .ok (.getfield 9, 3) := by decide +kernel
theorem dX7_open_111 : decode cX7_open 111 = .ok (.bipush 40, 2) := by decide +kernel
theorem dX7_open_113 : decode cX7_open 113 = .ok (.iload_n 2, 1) := by decide +kernel
theorem dX7_open_114 : decode cX7_open 114 = .ok (.iadd, 1) := by decide +kernel
theorem dX7_open_115 : decode cX7_open 115 = .ok (.iaload, 1) := by decide +kernel
theorem dX7_open_116 : decode cX7_open 116 = .ok (.iconst 1, 1) := by decide +kernel
theorem dX7_open_117 : decode cX7_open 117 = .ok (.if_icmp .ne 7, 3) := by decide +kernel
theorem dX7_open_120 : decode cX7_open 120 = .ok (.iconst 1, 1) := by decide +kernel
theorem dX7_open_121 : decode cX7_open 121 = .ok (.goto 4, 3) := by decide +kernel
theorem dX7_open_124 : decode cX7_open 124 = .ok (.iconst 0, 1) := by decide +kernel
theorem dX7_open_125 : decode cX7_open 125 = .ok (.invokevirtual 174, 3) := by decide +kernel
theorem dX7_open_128 : decode cX7_open 128 = .ok (.aload_n 0, 1) := by decide +kernel
theorem dX7_open_129 : decode cX7_open 129 = .ok (.getfield 9, 3) := by decide +kernel
theorem dX7_open_132 : decode cX7_open 132 = .ok (.sipush 1540, 3) := by decide +kernel
theorem dX7_open_135 : decode cX7_open 135 = .ok (.iload_n 2, 1) := by decide +kernel
theorem dX7_open_136 : decode cX7_open 136 = .ok (.iadd, 1) := by decide +kernel
theorem dX7_open_137 : decode cX7_open 137 = .ok (.aload_n 0, 1) := by decide +kernel
theorem dX7_open_138 : decode cX7_open 138 = .ok (.iload_n 2, 1) := by decide +kernel
theorem dX7_open_139 : decode cX7_open 139 = .ok (.iload_n 1, 1) := by decide +kernel
theorem dX7_open_140 : decode cX7_open 140 = .ok (.invokevirtual 126, 3) := by decide +kernel
theorem dX7_open_143 : decode cX7_open 143 = .ok (.iastore, 1) := by decide +kernel
theorem dX7_open_144 : decode cX7_open 144 = .ok (.iinc 2 1, 3) := by decide +kernel
theorem dX7_open_147 : decode cX7_open 147 = .ok (.goto (-52), 3) := by decide +kernel
theorem dX7_open_150 : decode cX7_open 150 = .ok (.aload_n 0, 1) := by decide +kernel
theorem dX7_open_151 : decode cX7_open 151 = .ok (.invokevirtual 190, 3) := by decide +kernel
theorem dX7_open_154 : decode cX7_open 154 = .ok (.aload_n 0, 1) := by decide +kernel
theorem dX7_open_155 : decode cX7_open 155 = .ok (.iconst 1, 1) := by decide +kernel
theorem dX7_open_156 : decode cX7_open 156 = .ok (.invokevirtual 171, 3) := by decide +kernel
theorem dX7_open_159 : decode cX7_open 159 = .ok (.invokestatic 109, 3) := by decide +kernel
theorem dX7_open_162 : decode cX7_open 162 = .ok (.ireturn, 1) := by decide +kernel
theorem dX7_goOn_0 : decode cX7_goOn 0 = .ok (.aload_n 0, 1) := by decide +kernel
theorem dX7_goOn_1 : decode cX7_goOn 1 = .ok (.getfield 9, 3) := by decide +kernel
theorem dX7_goOn_4 : decode cX7_goOn 4 = .ok (.iconst 3, 1) := by decide +kernel
theorem dX7_goOn_5 : decode cX7_goOn 5 = .ok (.iaload, 1) := by decide +kernel
theorem dX7_goOn_6 : decode cX7_goOn 6 = .ok (.istore_n 2, 1) := by decide +kernel
theorem dX7_goOn_7 : decode cX7_goOn 7 = .ok (.aload_n 0, 1) := by decide +kernel
theorem dX7_goOn_8 : decode cX7_goOn 8 = .ok (.getfield 9, 3) := by decide +kernel
theorem dX7_goOn_11 : decode cX7_goOn 11 = .ok (.bipush 112, 2) := by decide +kernel
theorem dX7_goOn_13 : decode cX7_goOn 13 = .ok (.iload_n 2, 1) := by decide +kernel
theorem dX7_goOn_14 : decode cX7_goOn 14 = .ok (.iadd, 1) := by decide +kernel
theorem dX7_goOn_15 : decode cX7_goOn 15 = .ok (.iaload, 1) := by decide +kernel
theorem dX7_goOn_16 : decode cX7_goOn 16 = .ok (.iload_n 1, 1) := by decide +kernel
theorem dX7_goOn_17 : decode cX7_goOn 17 = .ok (.isub, 1) := by decide +kernel
theorem dX7_goOn_18 : decode cX7_goOn 18 = .ok (.istore_n 3, 1) := by decide +kernel
theorem dX7_goOn_19 : decode cX7_goOn 19 = .ok (.iconst 0, 1) := by decide +kernel
theorem dX7_goOn_20 : decode cX7_goOn 20 = .ok (.istore 4, 2) := by decide +kernel
theorem dX7_goOn_22 : decode cX7_goOn 22 = .ok (.iload 4, 2) := by decide +kernel
theorem dX7_goOn_24 : decode cX7_goOn 24 = .ok (.bipush 12, 2) := by decide +kernel
theorem dX7_goOn_26 : decode cX7_goOn 26 = .ok (.if_icmp .ge 77, 3) := by decide +kernel
theorem dX7_goOn_29 : decode cX7_goOn 29 = .ok (.aload_n 0, 1) := by decide +kernel
theorem dX7_goOn_30 : decode cX7_goOn 30 = .ok (.getfield 9, 3) := by decide +kernel
theorem dX7_goOn_33 : decode cX7_goOn 33 = .ok (.sipush 316, 3) := by decide +kernel
theorem dX7_goOn_36 : decode cX7_goOn 36 = .ok (.iload_n 2, 1) := by decide +kernel
theorem dX7_goOn_37 : decode cX7_goOn 37 = .ok (.iconst 1, 1) := by decide +kernel
theorem dX7_goOn_38 : decode cX7_goOn 38 = .ok (.iadd, 1) := by decide +kernel
theorem dX7_goOn_39 : decode cX7_goOn 39 = .ok (.bipush 12, 2) := by decide +kernel
theorem dX7_goOn_41 : decode cX7_goOn 41 = .ok (.imul, 1) := by decide +kernel
theorem dX7_goOn_42 : decode cX7_goOn 42 = .ok (.iadd, 1) := by decide +kernel
theorem dX7_goOn_43 : decode cX7_goOn 43 = .ok (.iload 4, 2) := by decide +kernel
theorem dX7_goOn_45 : decode cX7_goOn 45 = .ok (.iadd, 1) := by decide +kernel
theorem dX7_goOn_46 : decode cX7_goOn 46 = .ok (.aload_n 0, 1) := by decide +kernel
theorem dX7_goOn_47 : decode cX7_goOn 47 = .ok (.getfield 9, 3) := by decide +kernel
theorem dX7_goOn_50 : decode cX7_goOn 50 = .ok (.sipush 316, 3) := by decide +kernel
theorem dX7_goOn_53 : decode cX7_goOn 53 = .ok (.iload_n 2, 1) := by decide +kernel
theorem dX7_goOn_54 : decode cX7_goOn 54 = .ok (.bipush 12, 2) := by decide +kernel
theorem dX7_goOn_56 : decode cX7_goOn 56 = .ok (.imul, 1) := by decide +kernel
theorem dX7_goOn_57 : decode cX7_goOn 57 = .ok (.iadd, 1) := by decide +kernel
theorem dX7_goOn_58 : decode cX7_goOn 58 = .ok (.iload 4, 2) := by decide +kernel
theorem dX7_goOn_60 : decode cX7_goOn 60 = .ok (.iadd, 1) := by decide +kernel
theorem dX7_goOn_61 : decode cX7_goOn 61 = .ok (.iaload, 1) := by decide +kernel
theorem dX7_goOn_62 : decode cX7_goOn 62 = .ok (.iastore, 1) := by decide +kernel
theorem dX7_goOn_63 : decode cX7_goOn 63 = .ok (.aload_n 0, 1) := by decide +kernel
theorem dX7_goOn_64 : decode cX7_goOn 64 = .ok (.getfield 9, 3) := by decide +kernel
theorem dX7_goOn_67 : decode cX7_goOn 67 = .ok (.sipush 1540, 3) := by decide +kernel
theorem dX7_goOn_70 : decode cX7_goOn 70 = .ok (.iload_n 2, 1) := by decide +kernel
theorem dX7_goOn_71 : decode cX7_goOn 71 = .ok (.iconst 1, 1) := by decide +kernel
theorem dX7_goOn_72 : decode cX7_goOn 72 = .ok (.iadd, 1) := by decide +kernel
theorem dX7_goOn_73 : decode cX7_goOn 73 = .ok (.bipush 12, 2) := by decide +kernel
theorem dX7_goOn_75 : decode cX7_goOn 75 = .ok (.imul, 1) := by decide +kernel
theorem dX7_goOn_76 : decode cX7_goOn 76 = .ok (.iadd, 1) := by decide +kernel
theorem dX7_goOn_77 : decode cX7_goOn 77 = .ok (.iload 4, 2) := by decide +kernel
theorem dX7_goOn_79 : decode cX7_goOn 79 = .ok (.iadd, 1) := by decide +kernel
theorem dX7_goOn_80 : decode cX7_goOn 80 = .ok (.aload_n 0, 1) := by decide +kernel
theorem dX7_goOn_81 : decode cX7_goOn 81 = .ok (.getfield 9, 3) := by decide +kernel
theorem dX7_goOn_84 : decode cX7_goOn 84 = .ok (.sipush 1540, 3) := by decide +kernel
theorem dX7_goOn_87 : decode cX7_goOn 87 = .ok (.iload_n 2, 1) := by decide +kernel
theorem dX7_goOn_88 : decode cX7_goOn 88 = .ok (.bipush 12, 2) := by decide +kernel
theorem dX7_goOn_90 : decode cX7_goOn 90 = .ok (.imul, 1) := by decide +kernel
theorem dX7_goOn_91 : decode cX7_goOn 91 = .ok (.iadd, 1) := by decide +kernel
theorem dX7_goOn_92 : decode cX7_goOn 92 = .ok (.iload 4, 2) := by decide +kernel
theorem dX7_goOn_94 : decode cX7_goOn 94 = .ok (.iadd, 1) := by decide +kernel
theorem dX7_goOn_95 : decode cX7_goOn 95 = .ok (.iaload, 1) := by decide +kernel
theorem dX7_goOn_96 : decode cX7_goOn 96 = .ok (.iastore, 1) := by decide +kernel
theorem dX7_goOn_97 : decode cX7_goOn 97 = .ok (.iinc 4 1, 3) := by decide +kernel
theorem dX7_goOn_100 : decode cX7_goOn 100 = .ok (.goto (-78), 3) := by decide +kernel
theorem dX7_goOn_103 : decode cX7_goOn 103 = .ok (.aload_n 0, 1) := by decide +kernel
theorem dX7_goOn_104 : decode cX7_goOn 104 = .ok (.getfield 9, 3) := by decide +kernel
theorem dX7_goOn_107 : decode cX7_goOn 107 = .ok (.sipush 214, 3) := by decide +kernel
theorem dX7_goOn_110 : decode cX7_goOn 110 = .ok (.iload_n 2, 1) := by decide +kernel
theorem dX7_goOn_111 : decode cX7_goOn 111 = .ok (.iadd, 1) := by decide +kernel
theorem dX7_goOn_112 : decode cX7_goOn 112 = .ok (.iconst 1, 1) := by decide +kernel
theorem dX7_goOn_113 : decode cX7_goOn 113 = .ok (.iadd, 1) := by decide +kernel
theorem dX7_goOn_114 : decode cX7_goOn 114 = .ok (.aload_n 0, 1) := by decide +kernel
theorem dX7_goOn_115 : decode cX7_goOn 115 = .ok (.getfield 9, 3) := by decide +kernel
theorem dX7_goOn_118 : decode cX7_goOn 118 = .ok (.sipush 214, 3) := by decide +kernel
theorem dX7_goOn_121 : decode cX7_goOn 121 = .ok (.iload_n 2, 1) := by decide +kernel
theorem dX7_goOn_122 : decode cX7_goOn 122 = .ok (.iadd, 1) := by decide +kernel
theorem dX7_goOn_123 : decode cX7_goOn 123 = .ok (.iaload, 1) := by decide +kernel
theorem dX7_goOn_124 : decode cX7_goOn 124 = .ok (.iastore, 1) := by decide +kernel
theorem dX7_goOn_125 : decode cX7_goOn 125 = .ok (.aload_n 0, 1) := by decide +kernel
theorem dX7_goOn_126 : decode cX7_goOn 126 = .ok (.getfield 9, 3) := by decide +kernel
theorem dX7_goOn_129 : decode cX7_goOn 129 = .ok (.bipush 112, 2) := by decide +kernel
theorem dX7_goOn_131 : decode cX7_goOn 131 = .ok (.iload_n 2, 1) := by decide +kernel
theorem dX7_goOn_132 : decode cX7_goOn 132 = .ok (.iadd, 1) := by decide +kernel
theorem dX7_goOn_133 : decode cX7_goOn 133 = .ok (.iconst 1, 1) := by decide +kernel
theorem dX7_goOn_134 : decode cX7_goOn 134 = .ok (.iadd, 1) := by decide +kernel
theorem dX7_goOn_135 : decode cX7_goOn 135 = .ok (.iload_n 3, 1) := by decide +kernel
theorem dX7_goOn_136 : decode cX7_goOn 136 = .ok (.ifCond .ge 7, 3) := by decide +kernel
theorem dX7_goOn_139 : decode cX7_goOn 139 = .ok (.iconst 0, 1) := by decide +kernel
theorem dX7_goOn_140 : decode cX7_goOn 140 = .ok (.goto 4, 3) := by decide +kernel
theorem dX7_goOn_143 : decode cX7_goOn 143 = .ok (.iload_n 3, 1) := by decide +kernel
theorem dX7_goOn_144 : decode cX7_goOn 144 = .ok (.iastore, 1) := by decide +kernel
theorem dX7_goOn_145 : decode cX7_goOn 145 = .ok (.aload_n 0, 1) := by decide +kernel
theorem dX7_goOn_146 : decode cX7_goOn 146 = .ok (.getfield 9, 3) := by decide +kernel
theorem dX7_goOn_149 : decode cX7_goOn 149 = .ok (.iconst 3, 1) := by decide +kernel
theorem dX7_goOn_150 : decode cX7_goOn 150 = .ok (.dup2, 1) := by decide +kernel
theorem dX7_goOn_151 : decode cX7_goOn 151 = .ok (.iaload, 1) := by decide +kernel
theorem dX7_goOn_152 : decode cX7_goOn 152 = .ok (.iconst 1, 1) := by decide +kernel
theorem dX7_goOn_153 : decode cX7_goOn 153 = .ok (.iadd, 1) := by decide +kernel
theorem dX7_goOn_154 : decode cX7_goOn 154 = .ok (.iastore, 1) := by decide +kernel
theorem dX7_goOn_155 : decode cX7_goOn 155 = .ok (.aload_n 0, 1) := by decide +kernel
theorem dX7_goOn_156 : decode cX7_goOn 156 = .ok (.invokevirtual 190, 3) := by decide +kernel
theorem dX7_goOn_159 : decode cX7_goOn 159 = .ok (.return_, 1) := by decide +kernel
theorem dX7_isDecrement_0 : decode cX7_isDecrement 0 = .ok (.iload_n 0, 1) := by decide +kernel
theorem dX7_isDecrement_1 : decode cX7_isDecrement 1 = .ok (.bipush 10, 2) := by decide +kernel
theorem dX7_isDecrement_3 : decode cX7_isDecrement 3 = .ok (.sipush 1000, 3) := by decide +kernel
theorem dX7_isDecrement_6 : decode cX7_isDecrement 6 = .ok (.invokestatic 46, 3) := by decide +kernel
theorem dX7_isDecrement_9 : decode cX7_isDecrement 9 = .ok (.ireturn, 1) := by decide +kernel
theorem dX7_isOver_0 : decode cX7_isOver 0 = .ok (.aload_n 0, 1) := by decide +kernel
theorem dX7_isOver_1 : decode cX7_isOver 1 = .ok (.invokevirtual 58, 3) := by decide +kernel
theorem dX7_isOver_4 : decode cX7_isOver 4 = .ok (.ifCond .eq 15, 3) := by decide +kernel
theorem dX7_isOver_7 : decode cX7_isOver 7 = .ok (.aload_n 0, 1) := by decide +kernel
theorem dX7_isOver_8 : decode cX7_isOver 8 = .ok (.iconst 1, 1) := by decide +kernel
theorem dX7_isOver_9 : decode cX7_isOver 9 = .ok (.invokevirtual 171, 3) := by decide +kernel
theorem dX7_isOver_12 : decode cX7_isOver 12 = .ok (.ifCond .ne 7, 3) := by decide +kernel
theorem dX7_isOver_15 : decode cX7_isOver 15 = .ok (.iconst 1, 1) := by decide +kernel
theorem dX7_isOver_16 : decode cX7_isOver 16 = .ok (.goto 4, 3) := by decide +kernel
theorem dX7_isOver_19 : decode cX7_isOver 19 = .ok (.iconst 0, 1) := by decide +kernel
theorem dX7_isOver_20 : decode cX7_isOver 20 = .ok (.ireturn, 1) := by decide +kernel
theorem dX7_round_0 : decode cX7_round 0 = .ok (.aload_n 0, 1) := by decide +kernel
theorem dX7_round_1 : decode cX7_round 1 = .ok (.iconst 1, 1) := by decide +kernel
theorem dX7_round_2 : decode cX7_round 2 = .ok (.iload_n 1, 1) := by decide +kernel
theorem dX7_round_3 : decode cX7_round 3 = .ok (.invokestatic 193, 3) := by decide +kernel
theorem dX7_round_6 : decode cX7_round 6 = .ok (.ifCond .ne 7, 3) := by decide +kernel
theorem dX7_round_9 : decode cX7_round 9 = .ok (.iconst 1, 1) := by decide +kernel
theorem dX7_round_10 : decode cX7_round 10 = .ok (.goto 4, 3) := by decide +kernel
theorem dX7_round_13 : decode cX7_round 13 = .ok (.iconst 0, 1) := by decide +kernel
theorem dX7_round_14 : decode cX7_round 14 = .ok (.invokevirtual 54, 3) := by decide +kernel
theorem dX7_round_17 : decode cX7_round 17 = .ok (.ifCond .ne 30, 3) := by decide +kernel
theorem dX7_round_20 : decode cX7_round 20 = .ok (.aload_n 0, 1) := by decide +kernel
theorem dX7_round_21 : decode cX7_round 21 = .ok (.iconst 2, 1) := by decide +kernel
theorem dX7_round_22 : decode cX7_round 22 = .ok (.aload_n 0, 1) := by decide +kernel
theorem dX7_round_23 : decode cX7_round 23 = .ok (.invokevirtual 58, 3) := by decide +kernel
theorem dX7_round_26 : decode cX7_round 26 = .ok (.ifCond .eq 10, 3) := by decide +kernel
theorem dX7_round_29 : decode cX7_round 29 = .ok (.aload_n 0, 1) := by decide +kernel
theorem dX7_round_30 : decode cX7_round 30 = .ok (.invokevirtual 196, 3) := by decide +kernel
theorem dX7_round_33 : decode cX7_round 33 = .ok (.ifCond .eq 7, 3) := by decide +kernel
theorem dX7_round_36 : decode cX7_round 36 = .ok (.iconst 1, 1) := by decide +kernel
theorem dX7_round_37 : decode cX7_round 37 = .ok (.goto 4, 3) := by decide +kernel
theorem dX7_round_40 : decode cX7_round 40 = .ok (.iconst 0, 1) := by decide +kernel
theorem dX7_round_41 : decode cX7_round 41 = .ok (.invokevirtual 54, 3) := by decide +kernel
theorem dX7_round_44 : decode cX7_round 44 = .ok (.ifCond .eq 5, 3) := by decide +kernel
theorem dX7_round_47 : decode cX7_round 47 = .ok (.iconst 0, 1) := by decide +kernel
theorem dX7_round_48 : decode cX7_round 48 = .ok (.ireturn, 1) := by decide +kernel
theorem dX7_round_49 : decode cX7_round 49 = .ok (.aload_n 0, 1) := by decide +kernel
theorem dX7_round_50 : decode cX7_round 50 = .ok (.iload_n 1, 1) := by decide +kernel
theorem dX7_round_51 : decode cX7_round 51 = .ok (.invokevirtual 199, 3) := by decide +kernel
theorem dX7_round_54 : decode cX7_round 54 = .ok (.aload_n 0, 1) := by decide +kernel
theorem dX7_round_55 : decode cX7_round 55 = .ok (.iconst 1, 1) := by decide +kernel
theorem dX7_round_56 : decode cX7_round 56 = .ok (.invokevirtual 171, 3) := by decide +kernel
theorem dX7_round_59 : decode cX7_round 59 = .ok (.invokestatic 109, 3) := by decide +kernel
theorem dX7_round_62 : decode cX7_round 62 = .ok (.ireturn, 1) := by decide +kernel
theorem dX7_run_0 : decode cX7_run 0 = .ok (.aload_n 0, 1) := by decide +kernel
theorem dX7_run_1 : decode cX7_run 1 = .ok (.iconst 1, 1) := by decide +kernel
theorem dX7_run_2 : decode cX7_run 2 = .ok (.iload_n 1, 1) := by decide +kernel
theorem dX7_run_3 : decode cX7_run 3 = .ok (.invokestatic 193, 3) := by decide +kernel
theorem dX7_run_6 : decode cX7_run 6 = .ok (.ifCond .ne 7, 3) := by decide +kernel
theorem dX7_run_9 : decode cX7_run 9 = .ok (.iconst 1, 1) := by decide +kernel
theorem dX7_run_10 : decode cX7_run 10 = .ok (.goto 4, 3) := by decide +kernel
theorem dX7_run_13 : decode cX7_run 13 = .ok (.iconst 0, 1) := by decide +kernel
theorem dX7_run_14 : decode cX7_run 14 = .ok (.invokevirtual 54, 3) := by decide +kernel
theorem dX7_run_17 : decode cX7_run 17 = .ok (.ifCond .ne 23, 3) := by decide +kernel
theorem dX7_run_20 : decode cX7_run 20 = .ok (.aload_n 0, 1) := by decide +kernel
theorem dX7_run_21 : decode cX7_run 21 = .ok (.iconst 2, 1) := by decide +kernel
theorem dX7_run_22 : decode cX7_run 22 = .ok (.aload_n 0, 1) := by decide +kernel
theorem dX7_run_23 : decode cX7_run 23 = .ok (.invokevirtual 58, 3) := by decide +kernel
theorem dX7_run_26 : decode cX7_run 26 = .ok (.ifCond .ne 7, 3) := by decide +kernel
theorem dX7_run_29 : decode cX7_run 29 = .ok (.iconst 1, 1) := by decide +kernel
theorem dX7_run_30 : decode cX7_run 30 = .ok (.goto 4, 3) := by decide +kernel
theorem dX7_run_33 : decode cX7_run 33 = .ok (.iconst 0, 1) := by decide +kernel
theorem dX7_run_34 : decode cX7_run 34 = .ok (.invokevirtual 54, 3) := by decide +kernel
theorem dX7_run_37 : decode cX7_run 37 = .ok (.ifCond .eq 5, 3) := by decide +kernel
theorem dX7_run_40 : decode cX7_run 40 = .ok (.iconst 0, 1) := by decide +kernel
theorem dX7_run_41 : decode cX7_run 41 = .ok (.ireturn, 1) := by decide +kernel
theorem dX7_run_42 : decode cX7_run 42 = .ok (.iconst 0, 1) := by decide +kernel
theorem dX7_run_43 : decode cX7_run 43 = .ok (.istore_n 2, 1) := by decide +kernel
theorem dX7_run_44 : decode cX7_run 44 = .ok (.aload_n 0, 1) := by decide +kernel
theorem dX7_run_45 : decode cX7_run 45 = .ok (.invokevirtual 196, 3) := by decide +kernel
theorem dX7_run_48 : decode cX7_run 48 = .ok (.ifCond .ne 14, 3) := by decide +kernel
theorem dX7_run_51 : decode cX7_run 51 = .ok (.aload_n 0, 1) := by decide +kernel
theorem dX7_run_52 : decode cX7_run 52 = .ok (.iload_n 1, 1) := by decide +kernel
theorem dX7_run_53 : decode cX7_run 53 = .ok (.invokevirtual 199, 3) := by decide +kernel
theorem dX7_run_56 : decode cX7_run 56 = .ok (.iinc 2 1, 3) := by decide +kernel
theorem dX7_run_59 : decode cX7_run 59 = .ok (.goto (-15), 3) := by decide +kernel
theorem dX7_run_62 : decode cX7_run 62 = .ok (.iload_n 2, 1) := by decide +kernel
theorem dX7_run_63 : decode cX7_run 63 = .ok (.ireturn, 1) := by decide +kernel
theorem dX7_back_0 : decode cX7_back 0 = .ok (.aload_n 0, 1) := by decide +kernel
theorem dX7_back_1 : decode cX7_back 1 = .ok (.iconst 1, 1) := by decide +kernel
theorem dX7_back_2 : decode cX7_back 2 = .ok (.aload_n 0, 1) := by decide +kernel
theorem dX7_back_3 : decode cX7_back 3 = .ok (.invokevirtual 58, 3) := by decide +kernel
theorem dX7_back_6 : decode cX7_back 6 = .ok (.ifCond .ne 7, 3) := by decide +kernel
theorem dX7_back_9 : decode cX7_back 9 = .ok (.iconst 1, 1) := by decide +kernel
theorem dX7_back_10 : decode cX7_back 10 = .ok (.goto 4, 3) := by decide +kernel
theorem dX7_back_13 : decode cX7_back 13 = .ok (.iconst 0, 1) := by decide +kernel
theorem dX7_back_14 : decode cX7_back 14 = .ok (.invokevirtual 54, 3) := by decide +kernel
theorem dX7_back_17 : decode cX7_back 17 = .ok (.ifCond .ne 30, 3) := by decide +kernel
theorem dX7_back_20 : decode cX7_back 20 = .ok (.aload_n 0, 1) := by decide +kernel
theorem dX7_back_21 : decode cX7_back 21 = .ok (.iconst 2, 1) := by decide +kernel
theorem dX7_back_22 : decode cX7_back 22 = .ok (.iload_n 1, 1) := by decide +kernel
theorem dX7_back_23 : decode cX7_back 23 = .ok (.iconst 0, 1) := by decide +kernel
theorem dX7_back_24 : decode cX7_back 24 = .ok (.aload_n 0, 1) := by decide +kernel
theorem dX7_back_25 : decode cX7_back 25 = .ok (.getfield 9, 3) := by decide +kernel
theorem dX7_back_28 : decode cX7_back 28 = .ok (.iconst 3, 1) := by decide +kernel
theorem dX7_back_29 : decode cX7_back 29 = .ok (.iaload, 1) := by decide +kernel
theorem dX7_back_30 : decode cX7_back 30 = .ok (.invokestatic 46, 3) := by decide +kernel
theorem dX7_back_33 : decode cX7_back 33 = .ok (.ifCond .ne 7, 3) := by decide +kernel
theorem dX7_back_36 : decode cX7_back 36 = .ok (.iconst 1, 1) := by decide +kernel
theorem dX7_back_37 : decode cX7_back 37 = .ok (.goto 4, 3) := by decide +kernel
theorem dX7_back_40 : decode cX7_back 40 = .ok (.iconst 0, 1) := by decide +kernel
theorem dX7_back_41 : decode cX7_back 41 = .ok (.invokevirtual 54, 3) := by decide +kernel
theorem dX7_back_44 : decode cX7_back 44 = .ok (.ifCond .eq 5, 3) := by decide +kernel
theorem dX7_back_47 : decode cX7_back 47 = .ok (.iconst 0, 1) := by decide +kernel
theorem dX7_back_48 : decode cX7_back 48 = .ok (.ireturn, 1) := by decide +kernel
theorem dX7_back_49 : decode cX7_back 49 = .ok (.aload_n 0, 1) := by decide +kernel
theorem dX7_back_50 : decode cX7_back 50 = .ok (.getfield 9, 3) := by decide +kernel
theorem dX7_back_53 : decode cX7_back 53 = .ok (.iconst 3, 1) := by decide +kernel
theorem dX7_back_54 : decode cX7_back 54 = .ok (.iload_n 1, 1) := by decide +kernel
theorem dX7_back_55 : decode cX7_back 55 = .ok (.iastore, 1) := by decide +kernel
theorem dX7_back_56 : decode cX7_back 56 = .ok (.aload_n 0, 1) := by decide +kernel
theorem dX7_back_57 : decode cX7_back 57 = .ok (.iconst 1, 1) := by decide +kernel
theorem dX7_back_58 : decode cX7_back 58 = .ok (.invokevirtual 171, 3) := by decide +kernel
theorem dX7_back_61 : decode cX7_back 61 = .ok (.invokestatic 109, 3) := by decide +kernel
theorem dX7_back_64 : decode cX7_back 64 = .ok (.ireturn, 1) := by decide +kernel
theorem dX7_close_0 : decode cX7_close 0 = .ok (.aload_n 0, 1) := by decide +kernel
theorem dX7_close_1 : decode cX7_close 1 = .ok (.iconst 1, 1) := by decide +kernel
theorem dX7_close_2 : decode cX7_close 2 = .ok (.aload_n 0, 1) := by decide +kernel
theorem dX7_close_3 : decode cX7_close 3 = .ok (.invokevirtual 196, 3) := by decide +kernel
theorem dX7_close_6 : decode cX7_close 6 = .ok (.ifCond .ne 7, 3) := by decide +kernel
theorem dX7_close_9 : decode cX7_close 9 = .ok (.iconst 1, 1) := by decide +kernel
theorem dX7_close_10 : decode cX7_close 10 = .ok (.goto 4, 3) := by decide +kernel
theorem dX7_close_13 : decode cX7_close 13 = .ok (.iconst 0, 1) := by decide +kernel
theorem dX7_close_14 : decode cX7_close 14 = .ok (.invokevirtual 54, 3) := by decide +kernel
theorem dX7_close_17 : decode cX7_close 17 = .ok (.ifCond .eq 5, 3) := by decide +kernel
theorem dX7_close_20 : decode cX7_close 20 = .ok (.iconst 0, 1) := by decide +kernel
theorem dX7_close_21 : decode cX7_close 21 = .ok (.ireturn, 1) := by decide +kernel
theorem dX7_close_22 : decode cX7_close 22 = .ok (.aload_n 0, 1) := by decide +kernel
theorem dX7_close_23 : decode cX7_close 23 = .ok (.iconst 0, 1) := by decide +kernel
theorem dX7_close_24 : decode cX7_close 24 = .ok (.invokevirtual 171, 3) := by decide +kernel
theorem dX7_close_27 : decode cX7_close 27 = .ok (.istore_n 1, 1) := by decide +kernel
theorem dX7_close_28 : decode cX7_close 28 = .ok (.aload_n 0, 1) := by decide +kernel
theorem dX7_close_29 : decode cX7_close 29 = .ok (.invokevirtual 159, 3) := by decide +kernel
theorem dX7_close_32 : decode cX7_close 32 = .ok (.aload_n 0, 1) := by decide +kernel
theorem dX7_close_33 : decode cX7_close 33 = .ok (.iload_n 1, 1) := by decide +kernel
theorem dX7_close_34 : decode cX7_close 34 = .ok (.invokevirtual 162, 3) := by decide +kernel
theorem dX7_close_37 : decode cX7_close 37 = .ok (.aload_n 0, 1) := by decide +kernel
theorem dX7_close_38 : decode cX7_close 38 = .ok (.getfield 9, 3) := by decide +kernel
theorem dX7_close_41 : decode cX7_close 41 = .ok (.iconst 2, 1) := by decide +kernel
theorem dX7_close_42 : decode cX7_close 42 = .ok (.iconst 0, 1) := by decide +kernel
theorem dX7_close_43 : decode cX7_close 43 = .ok (.iastore, 1) := by decide +kernel
theorem dX7_close_44 : decode cX7_close 44 = .ok (.iload_n 1, 1) := by decide +kernel
theorem dX7_close_45 : decode cX7_close 45 = .ok (.invokestatic 109, 3) := by decide +kernel
theorem dX7_close_48 : decode cX7_close 48 = .ok (.ireturn, 1) := by decide +kernel
theorem dX7_cancel_0 : decode cX7_cancel 0 = .ok (.aload_n 0, 1) := by decide +kernel
theorem dX7_cancel_1 : decode cX7_cancel 1 = .ok (.iconst 1, 1) := by decide +kernel
theorem dX7_cancel_2 : decode cX7_cancel 2 = .ok (.aload_n 0, 1) := by decide +kernel
theorem dX7_cancel_3 : decode cX7_cancel 3 = .ok (.invokevirtual 58, 3) := by decide +kernel
theorem dX7_cancel_6 : decode cX7_cancel 6 = .ok (.ifCond .ne 7, 3) := by decide +kernel
theorem dX7_cancel_9 : decode cX7_cancel 9 = .ok (.iconst 1, 1) := by decide +kernel
theorem dX7_cancel_10 : decode cX7_cancel 10 = .ok (.goto 4, 3) := by decide +kernel
theorem dX7_cancel_13 : decode cX7_cancel 13 = .ok (.iconst 0, 1) := by decide +kernel
theorem dX7_cancel_14 : decode cX7_cancel 14 = .ok (.invokevirtual 54, 3) := by decide +kernel
theorem dX7_cancel_17 : decode cX7_cancel 17 = .ok (.ifCond .eq 5, 3) := by decide +kernel
theorem dX7_cancel_20 : decode cX7_cancel 20 = .ok (.iconst 0, 1) := by decide +kernel
theorem dX7_cancel_21 : decode cX7_cancel 21 = .ok (.ireturn, 1) := by decide +kernel
theorem dX7_cancel_22 : decode cX7_cancel 22 = .ok (.aload_n 0, 1) := by decide +kernel
theorem dX7_cancel_23 : decode cX7_cancel 23 = .ok (.getfield 9, 3) := by decide +kernel
theorem dX7_cancel_26 : decode cX7_cancel 26 = .ok (.iconst 2, 1) := by decide +kernel
theorem dX7_cancel_27 : decode cX7_cancel 27 = .ok (.iconst 0, 1) := by decide +kernel
theorem dX7_cancel_28 : decode cX7_cancel 28 = .ok (.iastore, 1) := by decide +kernel
theorem dX7_cancel_29 : decode cX7_cancel 29 = .ok (.aload_n 0, 1) := by decide +kernel
theorem dX7_cancel_30 : decode cX7_cancel 30 = .ok (.getfield 9, 3) := by decide +kernel
theorem dX7_cancel_33 : decode cX7_cancel 33 = .ok (.iconst 3, 1) := by decide +kernel
theorem dX7_cancel_34 : decode cX7_cancel 34 = .ok (.iaload, 1) := by decide +kernel
theorem dX7_cancel_35 : decode cX7_cancel 35 = .ok (.ireturn, 1) := by decide +kernel
theorem dX7_state_0 : decode cX7_state 0 = .ok (.aload_n 0, 1) := by decide +kernel
theorem dX7_state_1 : decode cX7_state 1 = .ok (.iconst 1, 1) := by decide +kernel
theorem dX7_state_2 : decode cX7_state 2 = .ok (.aload_n 0, 1) := by decide +kernel
theorem dX7_state_3 : decode cX7_state 3 = .ok (.iload_n 1, 1) := by decide +kernel
theorem dX7_state_4 : decode cX7_state 4 = .ok (.invokevirtual 62, 3) := by decide +kernel
theorem dX7_state_7 : decode cX7_state 7 = .ok (.ifCond .ne 7, 3) := by decide +kernel
theorem dX7_state_10 : decode cX7_state 10 = .ok (.iconst 1, 1) := by decide +kernel
theorem dX7_state_11 : decode cX7_state 11 = .ok (.goto 4, 3) := by decide +kernel
theorem dX7_state_14 : decode cX7_state 14 = .ok (.iconst 0, 1) := by decide +kernel
theorem dX7_state_15 : decode cX7_state 15 = .ok (.invokevirtual 54, 3) := by decide +kernel
theorem dX7_state_18 : decode cX7_state 18 = .ok (.ifCond .ne 23, 3) := by decide +kernel
theorem dX7_state_21 : decode cX7_state 21 = .ok (.aload_n 0, 1) := by decide +kernel
theorem dX7_state_22 : decode cX7_state 22 = .ok (.iconst 2, 1) := by decide +kernel
theorem dX7_state_23 : decode cX7_state 23 = .ok (.aload_n 0, 1) := by decide +kernel
theorem dX7_state_24 : decode cX7_state 24 = .ok (.invokevirtual 58, 3) := by decide +kernel
theorem dX7_state_27 : decode cX7_state 27 = .ok (.ifCond .ne 7, 3) := by decide +kernel
theorem dX7_state_30 : decode cX7_state 30 = .ok (.iconst 1, 1) := by decide +kernel
theorem dX7_state_31 : decode cX7_state 31 = .ok (.goto 4, 3) := by decide +kernel
theorem dX7_state_34 : decode cX7_state 34 = .ok (.iconst 0, 1) := by decide +kernel
theorem dX7_state_35 : decode cX7_state 35 = .ok (.invokevirtual 54, 3) := by decide +kernel
theorem dX7_state_38 : decode cX7_state 38 = .ok (.ifCond .eq 7, 3) := by decide +kernel
theorem dX7_state_41 : decode cX7_state 41 = .ok (.iconst 0, 1) := by decide +kernel
theorem dX7_state_42 : decode cX7_state 42 = .ok (.goto 8, 3) := by decide +kernel
theorem dX7_state_45 : decode cX7_state 45 = .ok (.aload_n 0, 1) := by decide +kernel
theorem dX7_state_46 : decode cX7_state 46 = .ok (.iload_n 1, 1) := by decide +kernel
theorem dX7_state_47 : decode cX7_state 47 = .ok (.invokevirtual 168, 3) := by decide +kernel
theorem dX7_state_50 : decode cX7_state 50 = .ok (.ireturn, 1) := by decide +kernel
theorem dX7_priceNow_0 : decode cX7_priceNow 0 = .ok (.aload_n 0, 1) := by decide +kernel
theorem dX7_priceNow_1 : decode cX7_priceNow 1 = .ok (.getfield 9, 3) := by decide +kernel
theorem dX7_priceNow_4 : decode cX7_priceNow 4 = .ok (.sipush 1540, 3) := by decide +kernel
theorem dX7_priceNow_7 : decode cX7_priceNow 7 = .ok (.aload_n 0, 1) := by decide +kernel
theorem dX7_priceNow_8 : decode cX7_priceNow 8 = .ok (.getfield 9, 3) := by decide +kernel
theorem dX7_priceNow_11 : decode cX7_priceNow 11 = .ok (.iconst 3, 1) := by decide +kernel
theorem dX7_priceNow_12 : decode cX7_priceNow 12 = .ok (.iaload, 1) := by decide +kernel
theorem dX7_priceNow_13 : decode cX7_priceNow 13 = .ok (.bipush 12, 2) := by decide +kernel
theorem dX7_priceNow_15 : decode cX7_priceNow 15 = .ok (.imul, 1) := by decide +kernel
theorem dX7_priceNow_16 : decode cX7_priceNow 16 = .ok (.iadd, 1) := by decide +kernel
theorem dX7_priceNow_17 : decode cX7_priceNow 17 = .ok (.iload_n 1, 1) := by decide +kernel
theorem dX7_priceNow_18 : decode cX7_priceNow 18 = .ok (.iadd, 1) := by decide +kernel
theorem dX7_priceNow_19 : decode cX7_priceNow 19 = .ok (.iaload, 1) := by decide +kernel
theorem dX7_priceNow_20 : decode cX7_priceNow 20 = .ok (.ireturn, 1) := by decide +kernel
theorem dX7_price_0 : decode cX7_price 0 = .ok (.aload_n 0, 1) := by decide +kernel
theorem dX7_price_1 : decode cX7_price 1 = .ok (.iconst 1, 1) := by decide +kernel
theorem dX7_price_2 : decode cX7_price 2 = .ok (.aload_n 0, 1) := by decide +kernel
theorem dX7_price_3 : decode cX7_price 3 = .ok (.iload_n 1, 1) := by decide +kernel
theorem dX7_price_4 : decode cX7_price 4 = .ok (.invokevirtual 62, 3) := by decide +kernel
theorem dX7_price_7 : decode cX7_price 7 = .ok (.ifCond .ne 7, 3) := by decide +kernel
theorem dX7_price_10 : decode cX7_price 10 = .ok (.iconst 1, 1) := by decide +kernel
theorem dX7_price_11 : decode cX7_price 11 = .ok (.goto 4, 3) := by decide +kernel
theorem dX7_price_14 : decode cX7_price 14 = .ok (.iconst 0, 1) := by decide +kernel
theorem dX7_price_15 : decode cX7_price 15 = .ok (.invokevirtual 54, 3) := by decide +kernel
theorem dX7_price_18 : decode cX7_price 18 = .ok (.ifCond .ne 48, 3) := by decide +kernel
theorem dX7_price_21 : decode cX7_price 21 = .ok (.aload_n 0, 1) := by decide +kernel
theorem dX7_price_22 : decode cX7_price 22 = .ok (.iconst 2, 1) := by decide +kernel
theorem dX7_price_23 : decode cX7_price 23 = .ok (.aload_n 0, 1) := by decide +kernel
theorem dX7_price_24 : decode cX7_price 24 = .ok (.invokevirtual 58, 3) := by decide +kernel
theorem dX7_price_27 : decode cX7_price 27 = .ok (.ifCond .ne 7, 3) := by decide +kernel
theorem dX7_price_30 : decode cX7_price 30 = .ok (.iconst 1, 1) := by decide +kernel
theorem dX7_price_31 : decode cX7_price 31 = .ok (.goto 4, 3) := by decide +kernel
theorem dX7_price_34 : decode cX7_price 34 = .ok (.iconst 0, 1) := by decide +kernel
theorem dX7_price_35 : decode cX7_price 35 = .ok (.invokevirtual 54, 3) := by decide +kernel
theorem dX7_price_38 : decode cX7_price 38 = .ok (.ifCond .ne 28, 3) := by decide +kernel
theorem dX7_price_41 : decode cX7_price 41 = .ok (.aload_n 0, 1) := by decide +kernel
theorem dX7_price_42 : decode cX7_price 42 = .ok (.iconst 3, 1) := by decide +kernel
theorem dX7_price_43 : decode cX7_price 43 = .ok (.aload_n 0, 1) := by decide +kernel
theorem dX7_price_44 : decode cX7_price 44 = .ok (.getfield 9, 3) := by decide +kernel
theorem dX7_price_47 : decode cX7_price 47 = .ok (.bipush 40, 2) := by decide +kernel
theorem dX7_price_49 : decode cX7_price 49 = .ok (.iload_n 1, 1) := by decide +kernel
theorem dX7_price_50 : decode cX7_price 50 = .ok (.iadd, 1) := by decide +kernel
theorem dX7_price_51 : decode cX7_price 51 = .ok (.iaload, 1) := by decide +kernel
theorem dX7_price_52 : decode cX7_price 52 = .ok (.ifCond .ne 7, 3) := by decide +kernel
theorem dX7_price_55 : decode cX7_price 55 = .ok (.iconst 1, 1) := by decide +kernel
theorem dX7_price_56 : decode cX7_price 56 = .ok (.goto 4, 3) := by decide +kernel
theorem dX7_price_59 : decode cX7_price 59 = .ok (.iconst 0, 1) := by decide +kernel
theorem dX7_price_60 : decode cX7_price 60 = .ok (.invokevirtual 54, 3) := by decide +kernel
theorem dX7_price_63 : decode cX7_price 63 = .ok (.ifCond .eq 7, 3) := by decide +kernel
theorem dX7_price_66 : decode cX7_price 66 = .ok (.iconst 0, 1) := by decide +kernel
theorem dX7_price_67 : decode cX7_price 67 = .ok (.goto 8, 3) := by decide +kernel
theorem dX7_price_70 : decode cX7_price 70 = .ok (.aload_n 0, 1) := by decide +kernel
theorem dX7_price_71 : decode cX7_price 71 = .ok (.iload_n 1, 1) := by decide +kernel
theorem dX7_price_72 : decode cX7_price 72 = .ok (.invokevirtual 202, 3) := by decide +kernel
theorem dX7_price_75 : decode cX7_price 75 = .ok (.ireturn, 1) := by decide +kernel
theorem dX7_frozenBy_0 : decode cX7_frozenBy 0 = .ok (.aload_n 0, 1) := by decide +kernel
theorem dX7_frozenBy_1 : decode cX7_frozenBy 1 = .ok (.iconst 1, 1) := by decide +kernel
theorem dX7_frozenBy_2 : decode cX7_frozenBy 2 = .ok (.aload_n 0, 1) := by decide +kernel
theorem dX7_frozenBy_3 : decode cX7_frozenBy 3 = .ok (.iload_n 1, 1) := by decide +kernel
theorem dX7_frozenBy_4 : decode cX7_frozenBy 4 = .ok (.invokevirtual 62, 3) := by decide +kernel
theorem dX7_frozenBy_7 : decode cX7_frozenBy 7 = .ok (.ifCond .ne 7, 3) := by decide +kernel
theorem dX7_frozenBy_10 : decode cX7_frozenBy 10 = .ok (.iconst 1, 1) := by decide +kernel
theorem dX7_frozenBy_11 : decode cX7_frozenBy 11 = .ok (.goto 4, 3) := by decide +kernel
theorem dX7_frozenBy_14 : decode cX7_frozenBy 14 = .ok (.iconst 0, 1) := by decide +kernel
theorem dX7_frozenBy_15 : decode cX7_frozenBy 15 = .ok (.invokevirtual 54, 3) := by decide +kernel
theorem dX7_frozenBy_18 : decode cX7_frozenBy 18 = .ok (.ifCond .ne 57, 3) := by decide +kernel
theorem dX7_frozenBy_21 : decode cX7_frozenBy 21 = .ok (.aload_n 0, 1) := by decide +kernel
theorem dX7_frozenBy_22 : decode cX7_frozenBy 22 = .ok (.iconst 2, 1) := by decide +kernel
theorem dX7_frozenBy_23 : decode cX7_frozenBy 23 = .ok (.aload_n 0, 1) := by decide +kernel
theorem dX7_frozenBy_24 : decode cX7_frozenBy 24 = .ok (.invokevirtual 58, 3) := by decide +kernel
theorem dX7_frozenBy_27 : decode cX7_frozenBy 27 = .ok (.ifCond .ne 7, 3) := by decide +kernel
theorem dX7_frozenBy_30 : decode cX7_frozenBy 30 = .ok (.iconst 1, 1) := by decide +kernel
theorem dX7_frozenBy_31 : decode cX7_frozenBy 31 = .ok (.goto 4, 3) := by decide +kernel
theorem dX7_frozenBy_34 : decode cX7_frozenBy 34 = .ok (.iconst 0, 1) := by decide +kernel
theorem dX7_frozenBy_35 : decode cX7_frozenBy 35 = .ok (.invokevirtual 54, 3) := by decide +kernel
theorem dX7_frozenBy_38 : decode cX7_frozenBy 38 = .ok (.ifCond .ne 37, 3) := by decide +kernel
theorem dX7_frozenBy_41 : decode cX7_frozenBy 41 = .ok (.aload_n 0, 1) := by decide +kernel
theorem dX7_frozenBy_42 : decode cX7_frozenBy 42 = .ok (.iconst 3, 1) := by decide +kernel
theorem dX7_frozenBy_43 : decode cX7_frozenBy 43 = .ok (.aload_n 0, 1) := by decide +kernel
theorem dX7_frozenBy_44 : decode cX7_frozenBy 44 = .ok (.iload_n 1, 1) := by decide +kernel
theorem dX7_frozenBy_45 : decode cX7_frozenBy 45 = .ok (.invokevirtual 168, 3) := by decide +kernel
theorem dX7_frozenBy_48 : decode cX7_frozenBy 48 = .ok (.iconst 2, 1) := by decide +kernel
theorem dX7_frozenBy_49 : decode cX7_frozenBy 49 = .ok (.if_icmp .ne 15, 3) := by decide +kernel
theorem dX7_frozenBy_52 : decode cX7_frozenBy 52 = .ok (.aload_n 0, 1) := by decide +kernel
theorem dX7_frozenBy_53 : decode cX7_frozenBy 53 = .ok (.getfield 9, 3) := by decide +kernel
theorem dX7_frozenBy_56 : decode cX7_frozenBy 56 = .ok (.bipush 88, 2) := by decide +kernel
theorem dX7_frozenBy_58 : decode cX7_frozenBy 58 = .ok (.iload_n 1, 1) := by decide +kernel
theorem dX7_frozenBy_59 : decode cX7_frozenBy 59 = .ok (.iadd, 1) := by decide +kernel
theorem dX7_frozenBy_60 : decode cX7_frozenBy 60 = .ok (.iaload, 1) := by decide +kernel
theorem dX7_frozenBy_61 : decode cX7_frozenBy 61 = .ok (.ifCond .ge 7, 3) := by decide +kernel
theorem dX7_frozenBy_64 : decode cX7_frozenBy 64 = .ok (.iconst 1, 1) := by decide +kernel
theorem dX7_frozenBy_65 : decode cX7_frozenBy 65 = .ok (.goto 4, 3) := by decide +kernel
theorem dX7_frozenBy_68 : decode cX7_frozenBy 68 = .ok (.iconst 0, 1) := by decide +kernel
theorem dX7_frozenBy_69 : decode cX7_frozenBy 69 = .ok (.invokevirtual 54, 3) := by decide +kernel
theorem dX7_frozenBy_72 : decode cX7_frozenBy 72 = .ok (.ifCond .eq 5, 3) := by decide +kernel
theorem dX7_frozenBy_75 : decode cX7_frozenBy 75 = .ok (.iconst 0, 1) := by decide +kernel
theorem dX7_frozenBy_76 : decode cX7_frozenBy 76 = .ok (.ireturn, 1) := by decide +kernel
theorem dX7_frozenBy_77 : decode cX7_frozenBy 77 = .ok (.aload_n 0, 1) := by decide +kernel
theorem dX7_frozenBy_78 : decode cX7_frozenBy 78 = .ok (.getfield 9, 3) := by decide +kernel
theorem dX7_frozenBy_81 : decode cX7_frozenBy 81 = .ok (.bipush 88, 2) := by decide +kernel
theorem dX7_frozenBy_83 : decode cX7_frozenBy 83 = .ok (.iload_n 1, 1) := by decide +kernel
theorem dX7_frozenBy_84 : decode cX7_frozenBy 84 = .ok (.iadd, 1) := by decide +kernel
theorem dX7_frozenBy_85 : decode cX7_frozenBy 85 = .ok (.iaload, 1) := by decide +kernel
theorem dX7_frozenBy_86 : decode cX7_frozenBy 86 = .ok (.ireturn, 1) := by decide +kernel
theorem dX7_sumValues_0 : decode cX7_sumValues 0 = .ok (.iconst 0, 1) := by decide +kernel
theorem dX7_sumValues_1 : decode cX7_sumValues 1 = .ok (.istore_n 2, 1) := by decide +kernel
theorem dX7_sumValues_2 : decode cX7_sumValues 2 = .ok (.iconst 0, 1) := by decide +kernel
theorem dX7_sumValues_3 : decode cX7_sumValues 3 = .ok (.istore_n 3, 1) := by decide +kernel
theorem dX7_sumValues_4 : decode cX7_sumValues 4 = .ok (.iload_n 3, 1) := by decide +kernel
theorem dX7_sumValues_5 : decode cX7_sumValues 5 = .ok (.aload_n 0, 1) := by decide +kernel
theorem dX7_sumValues_6 : decode cX7_sumValues 6 = .ok (.getfield 9, 3) := by decide +kernel
theorem dX7_sumValues_9 : decode cX7_sumValues 9 = .ok (.iconst 0, 1) := by decide +kernel
theorem dX7_sumValues_10 : decode cX7_sumValues 10 = .ok (.iaload, 1) := by decide +kernel
theorem dX7_sumValues_11 : decode cX7_sumValues 11 = .ok (.if_icmp .ge 33, 3) := by decide +kernel
theorem dX7_sumValues_14 : decode cX7_sumValues 14 = .ok (.iload_n 2, 1) := by decide +kernel
theorem dX7_sumValues_15 : decode cX7_sumValues 15 = .ok (.iload_n 1, 1) := by decide +kernel
theorem dX7_sumValues_16 : decode cX7_sumValues 16 = .ok (.iload_n 3, 1) := by decide +kernel
theorem dX7_sumValues_17 : decode cX7_sumValues 17 = .ok (.invokestatic 93, 3) := by decide +kernel
theorem dX7_sumValues_20 : decode cX7_sumValues 20 = .ok (.ifCond .eq 15, 3) := by decide +kernel
theorem dX7_sumValues_23 : decode cX7_sumValues 23 = .ok (.aload_n 0, 1) := by decide +kernel
theorem dX7_sumValues_24 : decode cX7_sumValues 24 = .ok (.getfield 9, 3) := by decide +kernel
theorem dX7_sumValues_27 : decode cX7_sumValues 27 = .ok (.bipush 16, 2) := by decide +kernel
theorem dX7_sumValues_29 : decode cX7_sumValues 29 = .ok (.iload_n 3, 1) := by decide +kernel
theorem dX7_sumValues_30 : decode cX7_sumValues 30 = .ok (.iadd, 1) := by decide +kernel
theorem dX7_sumValues_31 : decode cX7_sumValues 31 = .ok (.iaload, 1) := by decide +kernel
theorem dX7_sumValues_32 : decode cX7_sumValues 32 = .ok (.goto 4, 3) := by decide +kernel
theorem dX7_sumValues_35 : decode cX7_sumValues 35 = .ok (.iconst 0, 1) := by decide +kernel
theorem dX7_sumValues_36 : decode cX7_sumValues 36 = .ok (.iadd, 1) := by decide +kernel
theorem dX7_sumValues_37 : decode cX7_sumValues 37 = .ok (.istore_n 2, 1) := by decide +kernel
theorem dX7_sumValues_38 : decode cX7_sumValues 38 = .ok (.iinc 3 1, 3) := by decide +kernel
theorem dX7_sumValues_41 : decode cX7_sumValues 41 = .ok (.goto (-37), 3) := by decide +kernel
theorem dX7_sumValues_44 : decode cX7_sumValues 44 = .ok (.iload_n 2, 1) := by decide +kernel
theorem dX7_sumValues_45 : decode cX7_sumValues 45 = .ok (.ireturn, 1) := by decide +kernel
theorem dX7_sumPrices_0 : decode cX7_sumPrices 0 = .ok (.iconst 0, 1) := by decide +kernel
theorem dX7_sumPrices_1 : decode cX7_sumPrices 1 = .ok (.istore_n 1, 1) := by decide +kernel
theorem dX7_sumPrices_2 : decode cX7_sumPrices 2 = .ok (.iconst 0, 1) := by decide +kernel
theorem dX7_sumPrices_3 : decode cX7_sumPrices 3 = .ok (.istore_n 2, 1) := by decide +kernel
theorem dX7_sumPrices_4 : decode cX7_sumPrices 4 = .ok (.iload_n 2, 1) := by decide +kernel
theorem dX7_sumPrices_5 : decode cX7_sumPrices 5 = .ok (.aload_n 0, 1) := by decide +kernel
theorem dX7_sumPrices_6 : decode cX7_sumPrices 6 = .ok (.getfield 9, 3) := by decide +kernel
theorem dX7_sumPrices_9 : decode cX7_sumPrices 9 = .ok (.iconst 0, 1) := by decide +kernel
theorem dX7_sumPrices_10 : decode cX7_sumPrices 10 = .ok (.iaload, 1) := by decide +kernel
theorem dX7_sumPrices_11 : decode cX7_sumPrices 11 = .ok (.if_icmp .ge 30, 3) := by decide +kernel
theorem dX7_sumPrices_14 : decode cX7_sumPrices 14 = .ok (.iload_n 1, 1) := by decide +kernel
theorem dX7_sumPrices_15 : decode cX7_sumPrices 15 = .ok (.aload_n 0, 1) := by decide +kernel
theorem dX7_sumPrices_16 : decode cX7_sumPrices 16 = .ok (.iload_n 2, 1) := by decide +kernel
theorem dX7_sumPrices_17 : decode cX7_sumPrices 17 = .ok (.invokevirtual 168, 3) := by decide +kernel
theorem dX7_sumPrices_20 : decode cX7_sumPrices 20 = .ok (.iconst 2, 1) := by decide +kernel
theorem dX7_sumPrices_21 : decode cX7_sumPrices 21 = .ok (.if_icmp .ne 11, 3) := by decide +kernel
theorem dX7_sumPrices_24 : decode cX7_sumPrices 24 = .ok (.aload_n 0, 1) := by decide +kernel
theorem dX7_sumPrices_25 : decode cX7_sumPrices 25 = .ok (.iload_n 2, 1) := by decide +kernel
theorem dX7_sumPrices_26 : decode cX7_sumPrices 26 = .ok (.invokevirtual 202, 3) := by decide +kernel
theorem dX7_sumPrices_29 : decode cX7_sumPrices 29 = .ok (.goto 4, 3) := by decide +kernel
theorem dX7_sumPrices_32 : decode cX7_sumPrices 32 = .ok (.iconst 0, 1) := by decide +kernel
theorem dX7_sumPrices_33 : decode cX7_sumPrices 33 = .ok (.iadd, 1) := by decide +kernel
theorem dX7_sumPrices_34 : decode cX7_sumPrices 34 = .ok (.istore_n 1, 1) := by decide +kernel
theorem dX7_sumPrices_35 : decode cX7_sumPrices 35 = .ok (.iinc 2 1, 3) := by decide +kernel
theorem dX7_sumPrices_38 : decode cX7_sumPrices 38 = .ok (.goto (-34), 3) := by decide +kernel
theorem dX7_sumPrices_41 : decode cX7_sumPrices 41 = .ok (.iload_n 1, 1) := by decide +kernel
theorem dX7_sumPrices_42 : decode cX7_sumPrices 42 = .ok (.ireturn, 1) := by decide +kernel
theorem dX7_auction_0 : decode cX7_auction 0 = .ok (.aload_n 0, 1) := by decide +kernel
theorem dX7_auction_1 : decode cX7_auction 1 = .ok (.iconst 1, 1) := by decide +kernel
theorem dX7_auction_2 : decode cX7_auction 2 = .ok (.iload_n 1, 1) := by decide +kernel
theorem dX7_auction_3 : decode cX7_auction 3 = .ok (.iconst 0, 1) := by decide +kernel
theorem dX7_auction_4 : decode cX7_auction 4 = .ok (.bipush 6, 2) := by decide +kernel
theorem dX7_auction_6 : decode cX7_auction 6 = .ok (.invokestatic 46, 3) := by decide +kernel
theorem dX7_auction_9 : decode cX7_auction 9 = .ok (.ifCond .ne 7, 3) := by decide +kernel
theorem dX7_auction_12 : decode cX7_auction 12 = .ok (.iconst 1, 1) := by decide +kernel
theorem dX7_auction_13 : decode cX7_auction 13 = .ok (.goto 4, 3) := by decide +kernel
theorem dX7_auction_16 : decode cX7_auction 16 = .ok (.iconst 0, 1) := by decide +kernel
theorem dX7_auction_17 : decode cX7_auction 17 = .ok (.invokevirtual 54, 3) := by decide +kernel
theorem dX7_auction_20 : decode cX7_auction 20 = .ok (.ifCond .ne 23, 3) := by decide +kernel
theorem dX7_auction_23 : decode cX7_auction 23 = .ok (.aload_n 0, 1) := by decide +kernel
theorem dX7_auction_24 : decode cX7_auction 24 = .ok (.iconst 2, 1) := by decide +kernel
theorem dX7_auction_25 : decode cX7_auction 25 = .ok (.aload_n 0, 1) := by decide +kernel
theorem dX7_auction_26 : decode cX7_auction 26 = .ok (.invokevirtual 58, 3) := by decide +kernel
theorem dX7_auction_29 : decode cX7_auction 29 = .ok (.ifCond .ne 7, 3) := by decide +kernel
theorem dX7_auction_32 : decode cX7_auction 32 = .ok (.iconst 1, 1) := by decide +kernel
theorem dX7_auction_33 : decode cX7_auction 33 = .ok (.goto 4, 3) := by decide +kernel
theorem dX7_auction_36 : decode cX7_auction 36 = .ok (.iconst 0, 1) := by decide +kernel
theorem dX7_auction_37 : decode cX7_auction 37 = .ok (.invokevirtual 54, 3) := by decide +kernel
theorem dX7_auction_40 : decode cX7_auction 40 = .ok (.ifCond .eq 5, 3) := by decide +kernel
theorem dX7_auction_43 : decode cX7_auction 43 = .ok (.iconst 0, 1) := by decide +kernel
theorem dX7_auction_44 : decode cX7_auction 44 = .ok (.ireturn, 1) := by decide +kernel
theorem dX7_auction_45 : decode cX7_auction 45 = .ok (.iload_n 1, 1) := by decide +kernel
theorem dX7_auction_46 : decode cX7_auction 46 = .ok (.tableswitch 79 0 6 #[42, 49, 79, 79, 79, 64, 69], 42) := by decide +kernel
theorem dX7_auction_88 : decode cX7_auction 88 = .ok (.aload_n 0, 1) := by decide +kernel
theorem dX7_auction_89 : decode cX7_auction 89 = .ok (.getfield 9, 3) := by decide +kernel
theorem dX7_auction_92 : decode cX7_auction 92 = .ok (.iconst 3, 1) := by decide +kernel
theorem dX7_auction_93 : decode cX7_auction 93 = .ok (.iaload, 1) := by decide +kernel
theorem dX7_auction_94 : decode cX7_auction 94 = .ok (.ireturn, 1) := by decide +kernel
theorem dX7_auction_95 : decode cX7_auction 95 = .ok (.aload_n 0, 1) := by decide +kernel
theorem dX7_auction_96 : decode cX7_auction 96 = .ok (.getfield 9, 3) := by decide +kernel
theorem dX7_auction_99 : decode cX7_auction 99 = .ok (.bipush 112, 2) := by decide +kernel
theorem dX7_auction_101 : decode cX7_auction 101 = .ok (.aload_n 0, 1) := by decide +kernel
theorem dX7_auction_102 : decode cX7_auction 102 = .ok (.getfield 9, 3) := by decide +kernel
theorem dX7_auction_105 : decode cX7_auction 105 = .ok (.iconst 3, 1) := by decide +kernel
theorem dX7_auction_106 : decode cX7_auction 106 = .ok (.iaload, 1) := by decide +kernel
theorem dX7_auction_107 : decode cX7_auction 107 = .ok (.iadd, 1) := by decide +kernel
theorem dX7_auction_108 : decode cX7_auction 108 = .ok (.iaload, 1) := by decide +kernel
theorem dX7_auction_109 : decode cX7_auction 109 = .ok (.ireturn, 1) := by decide +kernel
theorem dX7_auction_110 : decode cX7_auction 110 = .ok (.aload_n 0, 1) := by decide +kernel
theorem dX7_auction_111 : decode cX7_auction 111 = .ok (.invokevirtual 205, 3) := by decide +kernel
theorem dX7_auction_114 : decode cX7_auction 114 = .ok (.ireturn, 1) := by decide +kernel
theorem dX7_auction_115 : decode cX7_auction 115 = .ok (.aload_n 0, 1) := by decide +kernel
theorem dX7_auction_116 : decode cX7_auction 116 = .ok (.aload_n 0, 1) := by decide +kernel
theorem dX7_auction_117 : decode cX7_auction 117 = .ok (.iconst 2, 1) := by decide +kernel
theorem dX7_auction_118 : decode cX7_auction 118 = .ok (.invokevirtual 171, 3) := by decide +kernel
theorem dX7_auction_121 : decode cX7_auction 121 = .ok (.invokevirtual 208, 3) := by decide +kernel
theorem dX7_auction_124 : decode cX7_auction 124 = .ok (.ireturn, 1) := by decide +kernel
theorem dX7_auction_125 : decode cX7_auction 125 = .ok (.aload_n 0, 1) := by decide +kernel
theorem dX7_auction_126 : decode cX7_auction 126 = .ok (.iload_n 1, 1) := by decide +kernel
theorem dX7_auction_127 : decode cX7_auction 127 = .ok (.iconst 2, 1) := by decide +kernel
theorem dX7_auction_128 : decode cX7_auction 128 = .ok (.isub, 1) := by decide +kernel
theorem dX7_auction_129 : decode cX7_auction 129 = .ok (.invokevirtual 171, 3) := by decide +kernel
theorem dX7_auction_132 : decode cX7_auction 132 = .ok (.ireturn, 1) := by decide +kernel
theorem dX7_event_0 : decode cX7_event 0 = .ok (.aload_n 0, 1) := by decide +kernel
theorem dX7_event_1 : decode cX7_event 1 = .ok (.iconst 1, 1) := by decide +kernel
theorem dX7_event_2 : decode cX7_event 2 = .ok (.aload_n 0, 1) := by decide +kernel
theorem dX7_event_3 : decode cX7_event 3 = .ok (.invokevirtual 58, 3) := by decide +kernel
theorem dX7_event_6 : decode cX7_event 6 = .ok (.ifCond .ne 7, 3) := by decide +kernel
theorem dX7_event_9 : decode cX7_event 9 = .ok (.iconst 1, 1) := by decide +kernel
theorem dX7_event_10 : decode cX7_event 10 = .ok (.goto 4, 3) := by decide +kernel
theorem dX7_event_13 : decode cX7_event 13 = .ok (.iconst 0, 1) := by decide +kernel
theorem dX7_event_14 : decode cX7_event 14 = .ok (.invokevirtual 54, 3) := by decide +kernel
theorem dX7_event_17 : decode cX7_event 17 = .ok (.ifCond .ne 41, 3) := by decide +kernel
theorem dX7_event_20 : decode cX7_event 20 = .ok (.aload_n 0, 1) := by decide +kernel
theorem dX7_event_21 : decode cX7_event 21 = .ok (.iconst 2, 1) := by decide +kernel
theorem dX7_event_22 : decode cX7_event 22 = .ok (.iload_n 1, 1) := by decide +kernel
theorem dX7_event_23 : decode cX7_event 23 = .ok (.iconst 0, 1) := by decide +kernel
theorem dX7_event_24 : decode cX7_event 24 = .ok (.aload_n 0, 1) := by decide +kernel
theorem dX7_event_25 : decode cX7_event 25 = .ok (.getfield 9, 3) := by decide +kernel
theorem dX7_event_28 : decode cX7_event 28 = .ok (.sipush 214, 3) := by decide +kernel
theorem dX7_event_31 : decode cX7_event 31 = .ok (.aload_n 0, 1) := by decide +kernel
theorem dX7_event_32 : decode cX7_event 32 = .ok (.getfield 9, 3) := by decide +kernel
theorem dX7_event_35 : decode cX7_event 35 = .ok (.iconst 3, 1) := by decide +kernel
theorem dX7_event_36 : decode cX7_event 36 = .ok (.iaload, 1) := by decide +kernel
theorem dX7_event_37 : decode cX7_event 37 = .ok (.iadd, 1) := by decide +kernel
theorem dX7_event_38 : decode cX7_event 38 = .ok (.iaload, 1) := by decide +kernel
theorem dX7_event_39 : decode cX7_event 39 = .ok (.iconst 1, 1) := by decide +kernel
theorem dX7_event_40 : decode cX7_event 40 = .ok (.isub, 1) := by decide +kernel
theorem dX7_event_41 : decode cX7_event 41 = .ok (.invokestatic 46, 3) := by decide +kernel
theorem dX7_event_44 : decode cX7_event 44 = .ok (.ifCond .ne 7, 3) := by decide +kernel
theorem dX7_event_47 : decode cX7_event 47 = .ok (.iconst 1, 1) := by decide +kernel
theorem dX7_event_48 : decode cX7_event 48 = .ok (.goto 4, 3) := by decide +kernel
theorem dX7_event_51 : decode cX7_event 51 = .ok (.iconst 0, 1) := by decide +kernel
theorem dX7_event_52 : decode cX7_event 52 = .ok (.invokevirtual 54, 3) := by decide +kernel
theorem dX7_event_55 : decode cX7_event 55 = .ok (.ifCond .eq 5, 3) := by decide +kernel
theorem dX7_event_58 : decode cX7_event 58 = .ok (.iconst 0, 1) := by decide +kernel
theorem dX7_event_59 : decode cX7_event 59 = .ok (.ireturn, 1) := by decide +kernel
theorem dX7_event_60 : decode cX7_event 60 = .ok (.aload_n 0, 1) := by decide +kernel
theorem dX7_event_61 : decode cX7_event 61 = .ok (.getfield 9, 3) := by decide +kernel
theorem dX7_event_64 : decode cX7_event 64 = .ok (.bipush 100, 2) := by decide +kernel
theorem dX7_event_66 : decode cX7_event 66 = .ok (.iload_n 1, 1) := by decide +kernel
theorem dX7_event_67 : decode cX7_event 67 = .ok (.iadd, 1) := by decide +kernel
theorem dX7_event_68 : decode cX7_event 68 = .ok (.iaload, 1) := by decide +kernel
theorem dX7_event_69 : decode cX7_event 69 = .ok (.ireturn, 1) := by decide +kernel
theorem dX7_order_0 : decode cX7_order 0 = .ok (.aload_n 0, 1) := by decide +kernel
theorem dX7_order_1 : decode cX7_order 1 = .ok (.iload_n 1, 1) := by decide +kernel
theorem dX7_order_2 : decode cX7_order 2 = .ok (.invokevirtual 180, 3) := by decide +kernel
theorem dX7_order_5 : decode cX7_order 5 = .ok (.istore_n 2, 1) := by decide +kernel
theorem dX7_order_6 : decode cX7_order 6 = .ok (.aload_n 0, 1) := by decide +kernel
theorem dX7_order_7 : decode cX7_order 7 = .ok (.iconst 1, 1) := by decide +kernel
theorem dX7_order_8 : decode cX7_order 8 = .ok (.iload_n 2, 1) := by decide +kernel
theorem dX7_order_9 : decode cX7_order 9 = .ok (.ifCond .ge 7, 3) := by decide +kernel
theorem dX7_order_12 : decode cX7_order 12 = .ok (.iconst 1, 1) := by decide +kernel
theorem dX7_order_13 : decode cX7_order 13 = .ok (.goto 4, 3) := by decide +kernel
theorem dX7_order_16 : decode cX7_order 16 = .ok (.iconst 0, 1) := by decide +kernel
theorem dX7_order_17 : decode cX7_order 17 = .ok (.invokevirtual 54, 3) := by decide +kernel
theorem dX7_order_20 : decode cX7_order 20 = .ok (.ifCond .eq 7, 3) := by decide +kernel
theorem dX7_order_23 : decode cX7_order 23 = .ok (.iconst 0, 1) := by decide +kernel
theorem dX7_order_24 : decode cX7_order 24 = .ok (.goto 4, 3) := by decide +kernel
theorem dX7_order_27 : decode cX7_order 27 = .ok (.iload_n 2, 1) := by decide +kernel
theorem dX7_order_28 : decode cX7_order 28 = .ok (.ireturn, 1) := by decide +kernel
theorem dX7_findBest_0 : decode cX7_findBest 0 = .ok (.aload_n 0, 1) := by decide +kernel
theorem dX7_findBest_1 : decode cX7_findBest 1 = .ok (.invokevirtual 186, 3) := by decide +kernel
theorem dX7_findBest_4 : decode cX7_findBest 4 = .ok (.istore_n 1, 1) := by decide +kernel
theorem dX7_findBest_5 : decode cX7_findBest 5 = .ok (.iload_n 1, 1) := by decide +kernel
theorem dX7_findBest_6 : decode cX7_findBest 6 = .ok (.istore_n 2, 1) := by decide +kernel
theorem dX7_findBest_7 : decode cX7_findBest 7 = .ok (.aload_n 0, 1) := by decide +kernel
theorem dX7_findBest_8 : decode cX7_findBest 8 = .ok (.iload_n 1, 1) := by decide +kernel
theorem dX7_findBest_9 : decode cX7_findBest 9 = .ok (.invokevirtual 208, 3) := by decide +kernel
theorem dX7_findBest_12 : decode cX7_findBest 12 = .ok (.istore_n 3, 1) := by decide +kernel
theorem dX7_findBest_13 : decode cX7_findBest 13 = .ok (.iconst 0, 1) := by decide +kernel
theorem dX7_findBest_14 : decode cX7_findBest 14 = .ok (.istore 4, 2) := by decide +kernel
theorem dX7_findBest_16 : decode cX7_findBest 16 = .ok (.iload 4, 2) := by decide +kernel
theorem dX7_findBest_18 : decode cX7_findBest 18 = .ok (.iconst 1, 1) := by decide +kernel
theorem dX7_findBest_19 : decode cX7_findBest 19 = .ok (.aload_n 0, 1) := by decide +kernel
theorem dX7_findBest_20 : decode cX7_findBest 20 = .ok (.getfield 9, 3) := by decide +kernel
theorem dX7_findBest_23 : decode cX7_findBest 23 = .ok (.iconst 0, 1) := by decide +kernel
theorem dX7_findBest_24 : decode cX7_findBest 24 = .ok (.iaload, 1) := by decide +kernel
theorem dX7_findBest_25 : decode cX7_findBest 25 = .ok (.ishl, 1) := by decide +kernel
theorem dX7_findBest_26 : decode cX7_findBest 26 = .ok (.if_icmp .ge 47, 3) := by decide +kernel
theorem dX7_findBest_29 : decode cX7_findBest 29 = .ok (.iload_n 1, 1) := by decide +kernel
theorem dX7_findBest_30 : decode cX7_findBest 30 = .ok (.iload 4, 2) := by decide +kernel
theorem dX7_findBest_32 : decode cX7_findBest 32 = .ok (.iconst (-1), 1) := by decide +kernel
theorem dX7_findBest_33 : decode cX7_findBest 33 = .ok (.ixor, 1) := by decide +kernel
theorem dX7_findBest_34 : decode cX7_findBest 34 = .ok (.iand, 1) := by decide +kernel
theorem dX7_findBest_35 : decode cX7_findBest 35 = .ok (.ifCond .ne 32, 3) := by decide +kernel
theorem dX7_findBest_38 : decode cX7_findBest 38 = .ok (.aload_n 0, 1) := by decide +kernel
theorem dX7_findBest_39 : decode cX7_findBest 39 = .ok (.iload 4, 2) := by decide +kernel
theorem dX7_findBest_41 : decode cX7_findBest 41 = .ok (.invokevirtual 208, 3) := by decide +kernel
theorem dX7_findBest_44 : decode cX7_findBest 44 = .ok (.iload_n 3, 1) := by decide +kernel
theorem dX7_findBest_45 : decode cX7_findBest 45 = .ok (.if_icmp .le 22, 3) := by decide +kernel
theorem dX7_findBest_48 : decode cX7_findBest 48 = .ok (.aload_n 0, 1) := by decide +kernel
theorem dX7_findBest_49 : decode cX7_findBest 49 = .ok (.iload 4, 2) := by decide +kernel
theorem dX7_findBest_51 : decode cX7_findBest 51 = .ok (.invokevirtual 153, 3) := by decide +kernel
theorem dX7_findBest_54 : decode cX7_findBest 54 = .ok (.ifCond .eq 13, 3) := by decide +kernel
theorem dX7_findBest_57 : decode cX7_findBest 57 = .ok (.iload 4, 2) := by decide +kernel
theorem dX7_findBest_59 : decode cX7_findBest 59 = .ok (.istore_n 2, 1) := by decide +kernel
theorem dX7_findBest_60 : decode cX7_findBest 60 = .ok (.aload_n 0, 1) := by decide +kernel
theorem dX7_findBest_61 : decode cX7_findBest 61 = .ok (.iload 4, 2) := by decide +kernel
theorem dX7_findBest_63 : decode cX7_findBest 63 = .ok (.invokevirtual 208, 3) := by decide +kernel
theorem dX7_findBest_66 : decode cX7_findBest 66 = .ok (.istore_n 3, 1) := by decide +kernel
theorem dX7_findBest_67 : decode cX7_findBest 67 = .ok (.iinc 4 1, 3) := by decide +kernel
theorem dX7_findBest_70 : decode cX7_findBest 70 = .ok (.goto (-54), 3) := by decide +kernel
theorem dX7_findBest_73 : decode cX7_findBest 73 = .ok (.iload_n 2, 1) := by decide +kernel
theorem dX7_findBest_74 : decode cX7_findBest 74 = .ok (.ireturn, 1) := by decide +kernel
theorem dX7_best_0 : decode cX7_best 0 = .ok (.aload_n 0, 1) := by decide +kernel
theorem dX7_best_1 : decode cX7_best 1 = .ok (.iconst 1, 1) := by decide +kernel
theorem dX7_best_2 : decode cX7_best 2 = .ok (.aload_n 0, 1) := by decide +kernel
theorem dX7_best_3 : decode cX7_best 3 = .ok (.aload_n 0, 1) := by decide +kernel
theorem dX7_best_4 : decode cX7_best 4 = .ok (.invokevirtual 186, 3) := by decide +kernel
theorem dX7_best_7 : decode cX7_best 7 = .ok (.invokevirtual 153, 3) := by decide +kernel
theorem dX7_best_10 : decode cX7_best 10 = .ok (.ifCond .ne 7, 3) := by decide +kernel
theorem dX7_best_13 : decode cX7_best 13 = .ok (.iconst 1, 1) := by decide +kernel
theorem dX7_best_14 : decode cX7_best 14 = .ok (.goto 4, 3) := by decide +kernel
theorem dX7_best_17 : decode cX7_best 17 = .ok (.iconst 0, 1) := by decide +kernel
theorem dX7_best_18 : decode cX7_best 18 = .ok (.invokevirtual 54, 3) := by decide +kernel
theorem dX7_best_21 : decode cX7_best 21 = .ok (.ifCond .eq 7, 3) := by decide +kernel
theorem dX7_best_24 : decode cX7_best 24 = .ok (.iconst 0, 1) := by decide +kernel
theorem dX7_best_25 : decode cX7_best 25 = .ok (.goto 7, 3) := by decide +kernel
theorem dX7_best_28 : decode cX7_best 28 = .ok (.aload_n 0, 1) := by decide +kernel
theorem dX7_best_29 : decode cX7_best 29 = .ok (.invokevirtual 211, 3) := by decide +kernel
theorem dX7_best_32 : decode cX7_best 32 = .ok (.ireturn, 1) := by decide +kernel
theorem dX7_lossOf_0 : decode cX7_lossOf 0 = .ok (.aload_n 0, 1) := by decide +kernel
theorem dX7_lossOf_1 : decode cX7_lossOf 1 = .ok (.iconst 1, 1) := by decide +kernel
theorem dX7_lossOf_2 : decode cX7_lossOf 2 = .ok (.aload_n 0, 1) := by decide +kernel
theorem dX7_lossOf_3 : decode cX7_lossOf 3 = .ok (.getfield 9, 3) := by decide +kernel
theorem dX7_lossOf_6 : decode cX7_lossOf 6 = .ok (.iconst 0, 1) := by decide +kernel
theorem dX7_lossOf_7 : decode cX7_lossOf 7 = .ok (.iaload, 1) := by decide +kernel
theorem dX7_lossOf_8 : decode cX7_lossOf 8 = .ok (.ishl, 1) := by decide +kernel
theorem dX7_lossOf_9 : decode cX7_lossOf 9 = .ok (.iconst 1, 1) := by decide +kernel
theorem dX7_lossOf_10 : decode cX7_lossOf 10 = .ok (.isub, 1) := by decide +kernel
theorem dX7_lossOf_11 : decode cX7_lossOf 11 = .ok (.iload_n 1, 1) := by decide +kernel
theorem dX7_lossOf_12 : decode cX7_lossOf 12 = .ok (.iconst (-1), 1) := by decide +kernel
theorem dX7_lossOf_13 : decode cX7_lossOf 13 = .ok (.ixor, 1) := by decide +kernel
theorem dX7_lossOf_14 : decode cX7_lossOf 14 = .ok (.iand, 1) := by decide +kernel
theorem dX7_lossOf_15 : decode cX7_lossOf 15 = .ok (.invokevirtual 208, 3) := by decide +kernel
theorem dX7_lossOf_18 : decode cX7_lossOf 18 = .ok (.ireturn, 1) := by decide +kernel
theorem dX7_leastLoss_0 : decode cX7_leastLoss 0 = .ok (.aload_n 0, 1) := by decide +kernel
theorem dX7_leastLoss_1 : decode cX7_leastLoss 1 = .ok (.iconst 1, 1) := by decide +kernel
theorem dX7_leastLoss_2 : decode cX7_leastLoss 2 = .ok (.aload_n 0, 1) := by decide +kernel
theorem dX7_leastLoss_3 : decode cX7_leastLoss 3 = .ok (.aload_n 0, 1) := by decide +kernel
theorem dX7_leastLoss_4 : decode cX7_leastLoss 4 = .ok (.invokevirtual 186, 3) := by decide +kernel
theorem dX7_leastLoss_7 : decode cX7_leastLoss 7 = .ok (.invokevirtual 153, 3) := by decide +kernel
theorem dX7_leastLoss_10 : decode cX7_leastLoss 10 = .ok (.ifCond .ne 7, 3) := by decide +kernel
theorem dX7_leastLoss_13 : decode cX7_leastLoss 13 = .ok (.iconst 1, 1) := by decide +kernel
theorem dX7_leastLoss_14 : decode cX7_leastLoss 14 = .ok (.goto 4, 3) := by decide +kernel
theorem dX7_leastLoss_17 : decode cX7_leastLoss 17 = .ok (.iconst 0, 1) := by decide +kernel
theorem dX7_leastLoss_18 : decode cX7_leastLoss 18 = .ok (.invokevirtual 54, 3) := by decide +kernel
theorem dX7_leastLoss_21 : decode cX7_leastLoss 21 = .ok (.ifCond .eq 7, 3) := by decide +kernel
theorem dX7_leastLoss_24 : decode cX7_leastLoss 24 = .ok (.iconst 0, 1) := by decide +kernel
theorem dX7_leastLoss_25 : decode cX7_leastLoss 25 = .ok (.goto 11, 3) := by decide +kernel
theorem dX7_leastLoss_28 : decode cX7_leastLoss 28 = .ok (.aload_n 0, 1) := by decide +kernel
theorem dX7_leastLoss_29 : decode cX7_leastLoss 29 = .ok (.aload_n 0, 1) := by decide +kernel
theorem dX7_leastLoss_30 : decode cX7_leastLoss 30 = .ok (.invokevirtual 211, 3) := by decide +kernel
theorem dX7_leastLoss_33 : decode cX7_leastLoss 33 = .ok (.invokevirtual 214, 3) := by decide +kernel
theorem dX7_leastLoss_36 : decode cX7_leastLoss 36 = .ok (.ireturn, 1) := by decide +kernel
theorem dX7_efficiencyBits_0 : decode cX7_efficiencyBits 0 = .ok (.aload_n 0, 1) := by decide +kernel
theorem dX7_efficiencyBits_1 : decode cX7_efficiencyBits 1 = .ok (.iconst 1, 1) := by decide +kernel
theorem dX7_efficiencyBits_2 : decode cX7_efficiencyBits 2 = .ok (.aload_n 0, 1) := by decide +kernel
theorem dX7_efficiencyBits_3 : decode cX7_efficiencyBits 3 = .ok (.invokevirtual 196, 3) := by decide +kernel
theorem dX7_efficiencyBits_6 : decode cX7_efficiencyBits 6 = .ok (.ifCond .ne 7, 3) := by decide +kernel
theorem dX7_efficiencyBits_9 : decode cX7_efficiencyBits 9 = .ok (.iconst 1, 1) := by decide +kernel
theorem dX7_efficiencyBits_10 : decode cX7_efficiencyBits 10 = .ok (.goto 4, 3) := by decide +kernel
theorem dX7_efficiencyBits_13 : decode cX7_efficiencyBits 13 = .ok (.iconst 0, 1) := by decide +kernel
theorem dX7_efficiencyBits_14 : decode cX7_efficiencyBits 14 = .ok (.invokevirtual 54, 3) := by decide +kernel
theorem dX7_efficiencyBits_17 : decode cX7_efficiencyBits 17 = .ok (.ifCond .eq 5, 3) := by decide +kernel
theorem dX7_efficiencyBits_20 : decode cX7_efficiencyBits 20 = .ok (.iconst 0, 1) := by decide +kernel
theorem dX7_efficiencyBits_21 : decode cX7_efficiencyBits 21 = .ok (.ireturn, 1) := by decide +kernel
theorem dX7_efficiencyBits_22 : decode cX7_efficiencyBits 22 = .ok (.aload_n 0, 1) := by decide +kernel
theorem dX7_efficiencyBits_23 : decode cX7_efficiencyBits 23 = .ok (.aload_n 0, 1) := by decide +kernel
theorem dX7_efficiencyBits_24 : decode cX7_efficiencyBits 24 = .ok (.iconst 2, 1) := by decide +kernel
theorem dX7_efficiencyBits_25 : decode cX7_efficiencyBits 25 = .ok (.invokevirtual 171, 3) := by decide +kernel
theorem dX7_efficiencyBits_28 : decode cX7_efficiencyBits 28 = .ok (.invokevirtual 208, 3) := by decide +kernel
theorem dX7_efficiencyBits_31 : decode cX7_efficiencyBits 31 = .ok (.istore_n 1, 1) := by decide +kernel
theorem dX7_efficiencyBits_32 : decode cX7_efficiencyBits 32 = .ok (.iload_n 1, 1) := by decide +kernel
theorem dX7_efficiencyBits_33 : decode cX7_efficiencyBits 33 = .ok (.ifCond .ne 7, 3) := by decide +kernel
theorem dX7_efficiencyBits_36 : decode cX7_efficiencyBits 36 = .ok (.fconst 1, 1) := by decide +kernel
theorem dX7_efficiencyBits_37 : decode cX7_efficiencyBits 37 = .ok (.goto 15, 3) := by decide +kernel
theorem dX7_efficiencyBits_40 : decode cX7_efficiencyBits 40 = .ok (.aload_n 0, 1) := by decide +kernel
theorem dX7_efficiencyBits_41 : decode cX7_efficiencyBits 41 = .ok (.aload_n 0, 1) := by decide +kernel
theorem dX7_efficiencyBits_42 : decode cX7_efficiencyBits 42 = .ok (.invokevirtual 211, 3) := by decide +kernel
theorem dX7_efficiencyBits_45 : decode cX7_efficiencyBits 45 = .ok (.invokevirtual 214, 3) := by decide +kernel
theorem dX7_efficiencyBits_48 : decode cX7_efficiencyBits 48 = .ok (.i2f, 1) := by decide +kernel
theorem dX7_efficiencyBits_49 : decode cX7_efficiencyBits 49 = .ok (.iload_n 1, 1) := by decide +kernel
theorem dX7_efficiencyBits_50 : decode cX7_efficiencyBits 50 = .ok (.i2f, 1) := by decide +kernel
theorem dX7_efficiencyBits_51 : decode cX7_efficiencyBits 51 = .ok (.fdiv, 1) := by decide +kernel
theorem dX7_efficiencyBits_52 : decode cX7_efficiencyBits 52 = .ok (.invokestatic 120, 3) := by decide +kernel
theorem dX7_efficiencyBits_55 : decode cX7_efficiencyBits 55 = .ok (.ireturn, 1) := by decide +kernel
theorem dX7_meanPriceBits_0 : decode cX7_meanPriceBits 0 = .ok (.aload_n 0, 1) := by decide +kernel
theorem dX7_meanPriceBits_1 : decode cX7_meanPriceBits 1 = .ok (.iconst 1, 1) := by decide +kernel
theorem dX7_meanPriceBits_2 : decode cX7_meanPriceBits 2 = .ok (.aload_n 0, 1) := by decide +kernel
theorem dX7_meanPriceBits_3 : decode cX7_meanPriceBits 3 = .ok (.invokevirtual 58, 3) := by decide +kernel
theorem dX7_meanPriceBits_6 : decode cX7_meanPriceBits 6 = .ok (.ifCond .ne 7, 3) := by decide +kernel
theorem dX7_meanPriceBits_9 : decode cX7_meanPriceBits 9 = .ok (.iconst 1, 1) := by decide +kernel
theorem dX7_meanPriceBits_10 : decode cX7_meanPriceBits 10 = .ok (.goto 4, 3) := by decide +kernel
theorem dX7_meanPriceBits_13 : decode cX7_meanPriceBits 13 = .ok (.iconst 0, 1) := by decide +kernel
theorem dX7_meanPriceBits_14 : decode cX7_meanPriceBits 14 = .ok (.invokevirtual 54, 3) := by decide +kernel
theorem dX7_meanPriceBits_17 : decode cX7_meanPriceBits 17 = .ok (.ifCond .ne 24, 3) := by decide +kernel
theorem dX7_meanPriceBits_20 : decode cX7_meanPriceBits 20 = .ok (.aload_n 0, 1) := by decide +kernel
theorem dX7_meanPriceBits_21 : decode cX7_meanPriceBits 21 = .ok (.iconst 2, 1) := by decide +kernel
theorem dX7_meanPriceBits_22 : decode cX7_meanPriceBits 22 = .ok (.aload_n 0, 1) := by decide +kernel
theorem dX7_meanPriceBits_23 : decode cX7_meanPriceBits 23 = .ok (.iconst 2, 1) := by decide +kernel
theorem dX7_meanPriceBits_24 : decode cX7_meanPriceBits 24 = .ok (.invokevirtual 171, 3) := by decide +kernel
theorem dX7_meanPriceBits_27 : decode cX7_meanPriceBits 27 = .ok (.ifCond .ne 7, 3) := by decide +kernel
theorem dX7_meanPriceBits_30 : decode cX7_meanPriceBits 30 = .ok (.iconst 1, 1) := by decide +kernel
theorem dX7_meanPriceBits_31 : decode cX7_meanPriceBits 31 = .ok (.goto 4, 3) := by decide +kernel
theorem dX7_meanPriceBits_34 : decode cX7_meanPriceBits 34 = .ok (.iconst 0, 1) := by decide +kernel
theorem dX7_meanPriceBits_35 : decode cX7_meanPriceBits 35 = .ok (.invokevirtual 54, 3) := by decide +kernel
theorem dX7_meanPriceBits_38 : decode cX7_meanPriceBits 38 = .ok (.ifCond .eq 5, 3) := by decide +kernel
theorem dX7_meanPriceBits_41 : decode cX7_meanPriceBits 41 = .ok (.lconst 0, 1) := by decide +kernel
theorem dX7_meanPriceBits_42 : decode cX7_meanPriceBits 42 = .ok (.lreturn, 1) := by decide +kernel
theorem dX7_meanPriceBits_43 : decode cX7_meanPriceBits 43 = .ok (.aload_n 0, 1) := by decide +kernel
theorem dX7_meanPriceBits_44 : decode cX7_meanPriceBits 44 = .ok (.invokevirtual 205, 3) := by decide +kernel
theorem dX7_meanPriceBits_47 : decode cX7_meanPriceBits 47 = .ok (.i2d, 1) := by decide +kernel
theorem dX7_meanPriceBits_48 : decode cX7_meanPriceBits 48 = .ok (.aload_n 0, 1) := by decide +kernel
theorem dX7_meanPriceBits_49 : decode cX7_meanPriceBits 49 = .ok (.iconst 2, 1) := by decide +kernel
theorem dX7_meanPriceBits_50 : decode cX7_meanPriceBits 50 = .ok (.invokevirtual 171, 3) := by decide +kernel
theorem dX7_meanPriceBits_53 : decode cX7_meanPriceBits 53 = .ok (.invokestatic 109, 3) := by decide +kernel
theorem dX7_meanPriceBits_56 : decode cX7_meanPriceBits 56 = .ok (.i2d, 1) := by decide +kernel
theorem dX7_meanPriceBits_57 : decode cX7_meanPriceBits 57 = .ok (.ddiv, 1) := by decide +kernel
theorem dX7_meanPriceBits_58 : decode cX7_meanPriceBits 58 = .ok (.invokestatic 217, 3) := by decide +kernel
theorem dX7_meanPriceBits_61 : decode cX7_meanPriceBits 61 = .ok (.lreturn, 1) := by decide +kernel
theorem dX7_countPairs_0 : decode cX7_countPairs 0 = .ok (.iconst 0, 1) := by decide +kernel
theorem dX7_countPairs_1 : decode cX7_countPairs 1 = .ok (.istore_n 2, 1) := by decide +kernel
theorem dX7_countPairs_2 : decode cX7_countPairs 2 = .ok (.iconst 0, 1) := by decide +kernel
theorem dX7_countPairs_3 : decode cX7_countPairs 3 = .ok (.istore_n 3, 1) := by decide +kernel
theorem dX7_countPairs_4 : decode cX7_countPairs 4 = .ok (.iload_n 3, 1) := by decide +kernel
theorem dX7_countPairs_5 : decode cX7_countPairs 5 = .ok (.aload_n 0, 1) := by decide +kernel
theorem dX7_countPairs_6 : decode cX7_countPairs 6 = .ok (.getfield 9, 3) := by decide +kernel
theorem dX7_countPairs_9 : decode cX7_countPairs 9 = .ok (.iconst 0, 1) := by decide +kernel
theorem dX7_countPairs_10 : decode cX7_countPairs 10 = .ok (.iaload, 1) := by decide +kernel
theorem dX7_countPairs_11 : decode cX7_countPairs 11 = .ok (.if_icmp .ge 23, 3) := by decide +kernel
theorem dX7_countPairs_14 : decode cX7_countPairs 14 = .ok (.iload_n 2, 1) := by decide +kernel
theorem dX7_countPairs_15 : decode cX7_countPairs 15 = .ok (.aload_n 0, 1) := by decide +kernel
theorem dX7_countPairs_16 : decode cX7_countPairs 16 = .ok (.getfield 9, 3) := by decide +kernel
theorem dX7_countPairs_19 : decode cX7_countPairs 19 = .ok (.iload_n 1, 1) := by decide +kernel
theorem dX7_countPairs_20 : decode cX7_countPairs 20 = .ok (.iload_n 3, 1) := by decide +kernel
theorem dX7_countPairs_21 : decode cX7_countPairs 21 = .ok (.iadd, 1) := by decide +kernel
theorem dX7_countPairs_22 : decode cX7_countPairs 22 = .ok (.iaload, 1) := by decide +kernel
theorem dX7_countPairs_23 : decode cX7_countPairs 23 = .ok (.invokestatic 109, 3) := by decide +kernel
theorem dX7_countPairs_26 : decode cX7_countPairs 26 = .ok (.iadd, 1) := by decide +kernel
theorem dX7_countPairs_27 : decode cX7_countPairs 27 = .ok (.istore_n 2, 1) := by decide +kernel
theorem dX7_countPairs_28 : decode cX7_countPairs 28 = .ok (.iinc 3 1, 3) := by decide +kernel
theorem dX7_countPairs_31 : decode cX7_countPairs 31 = .ok (.goto (-27), 3) := by decide +kernel
theorem dX7_countPairs_34 : decode cX7_countPairs 34 = .ok (.iload_n 2, 1) := by decide +kernel
theorem dX7_countPairs_35 : decode cX7_countPairs 35 = .ok (.iconst 2, 1) := by decide +kernel
theorem dX7_countPairs_36 : decode cX7_countPairs 36 = .ok (.idiv, 1) := by decide +kernel
theorem dX7_countPairs_37 : decode cX7_countPairs 37 = .ok (.ireturn, 1) := by decide +kernel
theorem dX7_countKept_0 : decode cX7_countKept 0 = .ok (.iconst 0, 1) := by decide +kernel
theorem dX7_countKept_1 : decode cX7_countKept 1 = .ok (.istore_n 1, 1) := by decide +kernel
theorem dX7_countKept_2 : decode cX7_countKept 2 = .ok (.iconst 0, 1) := by decide +kernel
theorem dX7_countKept_3 : decode cX7_countKept 3 = .ok (.istore_n 2, 1) := by decide +kernel
theorem dX7_countKept_4 : decode cX7_countKept 4 = .ok (.iload_n 2, 1) := by decide +kernel
theorem dX7_countKept_5 : decode cX7_countKept 5 = .ok (.aload_n 0, 1) := by decide +kernel
theorem dX7_countKept_6 : decode cX7_countKept 6 = .ok (.getfield 9, 3) := by decide +kernel
theorem dX7_countKept_9 : decode cX7_countKept 9 = .ok (.iconst 0, 1) := by decide +kernel
theorem dX7_countKept_10 : decode cX7_countKept 10 = .ok (.iaload, 1) := by decide +kernel
theorem dX7_countKept_11 : decode cX7_countKept 11 = .ok (.if_icmp .ge 29, 3) := by decide +kernel
theorem dX7_countKept_14 : decode cX7_countKept 14 = .ok (.iload_n 1, 1) := by decide +kernel
theorem dX7_countKept_15 : decode cX7_countKept 15 = .ok (.aload_n 0, 1) := by decide +kernel
theorem dX7_countKept_16 : decode cX7_countKept 16 = .ok (.getfield 9, 3) := by decide +kernel
theorem dX7_countKept_19 : decode cX7_countKept 19 = .ok (.bipush 52, 2) := by decide +kernel
theorem dX7_countKept_21 : decode cX7_countKept 21 = .ok (.iload_n 2, 1) := by decide +kernel
theorem dX7_countKept_22 : decode cX7_countKept 22 = .ok (.iadd, 1) := by decide +kernel
theorem dX7_countKept_23 : decode cX7_countKept 23 = .ok (.iaload, 1) := by decide +kernel
theorem dX7_countKept_24 : decode cX7_countKept 24 = .ok (.ifCond .lt 7, 3) := by decide +kernel
theorem dX7_countKept_27 : decode cX7_countKept 27 = .ok (.iconst 1, 1) := by decide +kernel
theorem dX7_countKept_28 : decode cX7_countKept 28 = .ok (.goto 4, 3) := by decide +kernel
theorem dX7_countKept_31 : decode cX7_countKept 31 = .ok (.iconst 0, 1) := by decide +kernel
theorem dX7_countKept_32 : decode cX7_countKept 32 = .ok (.iadd, 1) := by decide +kernel
theorem dX7_countKept_33 : decode cX7_countKept 33 = .ok (.istore_n 1, 1) := by decide +kernel
theorem dX7_countKept_34 : decode cX7_countKept 34 = .ok (.iinc 2 1, 3) := by decide +kernel
theorem dX7_countKept_37 : decode cX7_countKept 37 = .ok (.goto (-33), 3) := by decide +kernel
theorem dX7_countKept_40 : decode cX7_countKept 40 = .ok (.iload_n 1, 1) := by decide +kernel
theorem dX7_countKept_41 : decode cX7_countKept 41 = .ok (.ireturn, 1) := by decide +kernel
theorem dX7_count_0 : decode cX7_count 0 = .ok (.aload_n 0, 1) := by decide +kernel
theorem dX7_count_1 : decode cX7_count 1 = .ok (.iconst 1, 1) := by decide +kernel
theorem dX7_count_2 : decode cX7_count 2 = .ok (.iload_n 1, 1) := by decide +kernel
theorem dX7_count_3 : decode cX7_count 3 = .ok (.iconst 0, 1) := by decide +kernel
theorem dX7_count_4 : decode cX7_count 4 = .ok (.bipush 7, 2) := by decide +kernel
theorem dX7_count_6 : decode cX7_count 6 = .ok (.invokestatic 46, 3) := by decide +kernel
theorem dX7_count_9 : decode cX7_count 9 = .ok (.ifCond .ne 7, 3) := by decide +kernel
theorem dX7_count_12 : decode cX7_count 12 = .ok (.iconst 1, 1) := by decide +kernel
theorem dX7_count_13 : decode cX7_count 13 = .ok (.goto 4, 3) := by decide +kernel
theorem dX7_count_16 : decode cX7_count 16 = .ok (.iconst 0, 1) := by decide +kernel
theorem dX7_count_17 : decode cX7_count 17 = .ok (.invokevirtual 54, 3) := by decide +kernel
theorem dX7_count_20 : decode cX7_count 20 = .ok (.ifCond .eq 5, 3) := by decide +kernel
theorem dX7_count_23 : decode cX7_count 23 = .ok (.iconst 0, 1) := by decide +kernel
theorem dX7_count_24 : decode cX7_count 24 = .ok (.ireturn, 1) := by decide +kernel
theorem dX7_count_25 : decode cX7_count 25 = .ok (.iload_n 1, 1) := by decide +kernel
theorem dX7_count_26 : decode cX7_count 26 = .ok (.tableswitch 98 0 6 #[42, 49, 56, 63, 73, 88, 93], 42) := by decide +kernel
theorem dX7_count_68 : decode cX7_count 68 = .ok (.aload_n 0, 1) := by decide +kernel
theorem dX7_count_69 : decode cX7_count 69 = .ok (.getfield 9, 3) := by decide +kernel
theorem dX7_count_72 : decode cX7_count 72 = .ok (.iconst 0, 1) := by decide +kernel
theorem dX7_count_73 : decode cX7_count 73 = .ok (.iaload, 1) := by decide +kernel
theorem dX7_count_74 : decode cX7_count 74 = .ok (.ireturn, 1) := by decide +kernel
theorem dX7_count_75 : decode cX7_count 75 = .ok (.aload_n 0, 1) := by decide +kernel
theorem dX7_count_76 : decode cX7_count 76 = .ok (.bipush 64, 2) := by decide +kernel
theorem dX7_count_78 : decode cX7_count 78 = .ok (.invokevirtual 223, 3) := by decide +kernel
theorem dX7_count_81 : decode cX7_count 81 = .ok (.ireturn, 1) := by decide +kernel
theorem dX7_count_82 : decode cX7_count 82 = .ok (.aload_n 0, 1) := by decide +kernel
theorem dX7_count_83 : decode cX7_count 83 = .ok (.bipush 76, 2) := by decide +kernel
theorem dX7_count_85 : decode cX7_count 85 = .ok (.invokevirtual 223, 3) := by decide +kernel
theorem dX7_count_88 : decode cX7_count 88 = .ok (.ireturn, 1) := by decide +kernel
theorem dX7_count_89 : decode cX7_count 89 = .ok (.aload_n 0, 1) := by decide +kernel
theorem dX7_count_90 : decode cX7_count 90 = .ok (.getfield 9, 3) := by decide +kernel
theorem dX7_count_93 : decode cX7_count 93 = .ok (.iconst 1, 1) := by decide +kernel
theorem dX7_count_94 : decode cX7_count 94 = .ok (.iaload, 1) := by decide +kernel
theorem dX7_count_95 : decode cX7_count 95 = .ok (.invokestatic 109, 3) := by decide +kernel
theorem dX7_count_98 : decode cX7_count 98 = .ok (.ireturn, 1) := by decide +kernel
theorem dX7_count_99 : decode cX7_count 99 = .ok (.aload_n 0, 1) := by decide +kernel
theorem dX7_count_100 : decode cX7_count 100 = .ok (.getfield 9, 3) := by decide +kernel
theorem dX7_count_103 : decode cX7_count 103 = .ok (.iconst 0, 1) := by decide +kernel
theorem dX7_count_104 : decode cX7_count 104 = .ok (.iaload, 1) := by decide +kernel
theorem dX7_count_105 : decode cX7_count 105 = .ok (.aload_n 0, 1) := by decide +kernel
theorem dX7_count_106 : decode cX7_count 106 = .ok (.invokevirtual 186, 3) := by decide +kernel
theorem dX7_count_109 : decode cX7_count 109 = .ok (.invokestatic 109, 3) := by decide +kernel
theorem dX7_count_112 : decode cX7_count 112 = .ok (.isub, 1) := by decide +kernel
theorem dX7_count_113 : decode cX7_count 113 = .ok (.ireturn, 1) := by decide +kernel
theorem dX7_count_114 : decode cX7_count 114 = .ok (.aload_n 0, 1) := by decide +kernel
theorem dX7_count_115 : decode cX7_count 115 = .ok (.invokevirtual 226, 3) := by decide +kernel
theorem dX7_count_118 : decode cX7_count 118 = .ok (.ireturn, 1) := by decide +kernel
theorem dX7_count_119 : decode cX7_count 119 = .ok (.aload_n 0, 1) := by decide +kernel
theorem dX7_count_120 : decode cX7_count 120 = .ok (.getfield 65, 3) := by decide +kernel
theorem dX7_count_123 : decode cX7_count 123 = .ok (.ireturn, 1) := by decide +kernel
theorem dX7_count_124 : decode cX7_count 124 = .ok (.aload_n 0, 1) := by decide +kernel
theorem dX7_count_125 : decode cX7_count 125 = .ok (.invokevirtual 58, 3) := by decide +kernel
theorem dX7_count_128 : decode cX7_count 128 = .ok (.ifCond .eq 14, 3) := by decide +kernel
theorem dX7_count_131 : decode cX7_count 131 = .ok (.aload_n 0, 1) := by decide +kernel
theorem dX7_count_132 : decode cX7_count 132 = .ok (.getfield 9, 3) := by decide +kernel
theorem dX7_count_135 : decode cX7_count 135 = .ok (.iconst 3, 1) := by decide +kernel
theorem dX7_count_136 : decode cX7_count 136 = .ok (.iaload, 1) := by decide +kernel
theorem dX7_count_137 : decode cX7_count 137 = .ok (.iconst 1, 1) := by decide +kernel
theorem dX7_count_138 : decode cX7_count 138 = .ok (.iadd, 1) := by decide +kernel
theorem dX7_count_139 : decode cX7_count 139 = .ok (.goto 4, 3) := by decide +kernel
theorem dX7_count_142 : decode cX7_count 142 = .ok (.iconst 0, 1) := by decide +kernel
theorem dX7_count_143 : decode cX7_count 143 = .ok (.ireturn, 1) := by decide +kernel
theorem dX7_save_0 : decode cX7_save 0 = .ok (.aload_n 0, 1) := by decide +kernel
theorem dX7_save_1 : decode cX7_save 1 = .ok (.iconst 0, 1) := by decide +kernel
theorem dX7_save_2 : decode cX7_save 2 = .ok (.putfield 43, 3) := by decide +kernel
theorem dX7_save_5 : decode cX7_save 5 = .ok (.aload_n 0, 1) := by decide +kernel
theorem dX7_save_6 : decode cX7_save 6 = .ok (.iconst 1, 1) := by decide +kernel
theorem dX7_save_7 : decode cX7_save 7 = .ok (.putfield 229, 3) := by decide +kernel
theorem dX7_save_10 : decode cX7_save 10 = .ok (.aload_n 0, 1) := by decide +kernel
theorem dX7_save_11 : decode cX7_save 11 = .ok (.getfield 9, 3) := by decide +kernel
theorem dX7_save_14 : decode cX7_save 14 = .ok (.aload_n 0, 1) := by decide +kernel
theorem dX7_save_15 : decode cX7_save 15 = .ok (.getfield 13, 3) := by decide +kernel
theorem dX7_save_18 : decode cX7_save 18 = .ok (.invokestatic 232, 3) := by decide +kernel
theorem dX7_save_21 : decode cX7_save 21 = .ok (.aload_n 0, 1) := by decide +kernel
theorem dX7_save_22 : decode cX7_save 22 = .ok (.getfield 9, 3) := by decide +kernel
theorem dX7_save_25 : decode cX7_save 25 = .ok (.iconst 0, 1) := by decide +kernel
theorem dX7_save_26 : decode cX7_save 26 = .ok (.iaload, 1) := by decide +kernel
theorem dX7_save_27 : decode cX7_save 27 = .ok (.ireturn, 1) := by decide +kernel
theorem dX7_restore_0 : decode cX7_restore 0 = .ok (.aload_n 0, 1) := by decide +kernel
theorem dX7_restore_1 : decode cX7_restore 1 = .ok (.iconst 1, 1) := by decide +kernel
theorem dX7_restore_2 : decode cX7_restore 2 = .ok (.aload_n 0, 1) := by decide +kernel
theorem dX7_restore_3 : decode cX7_restore 3 = .ok (.getfield 229, 3) := by decide +kernel
theorem dX7_restore_6 : decode cX7_restore 6 = .ok (.ifCond .ne 7, 3) := by decide +kernel
theorem dX7_restore_9 : decode cX7_restore 9 = .ok (.iconst 1, 1) := by decide +kernel
theorem dX7_restore_10 : decode cX7_restore 10 = .ok (.goto 4, 3) := by decide +kernel
theorem dX7_restore_13 : decode cX7_restore 13 = .ok (.iconst 0, 1) := by decide +kernel
theorem dX7_restore_14 : decode cX7_restore 14 = .ok (.invokevirtual 54, 3) := by decide +kernel
theorem dX7_restore_17 : decode cX7_restore 17 = .ok (.ifCond .eq 5, 3) := by decide +kernel
theorem dX7_restore_20 : decode cX7_restore 20 = .ok (.iconst 0, 1) := by decide +kernel
theorem dX7_restore_21 : decode cX7_restore 21 = .ok (.ireturn, 1) := by decide +kernel
theorem dX7_restore_22 : decode cX7_restore 22 = .ok (.aload_n 0, 1) := by decide +kernel
theorem dX7_restore_23 : decode cX7_restore 23 = .ok (.getfield 13, 3) := by decide +kernel
theorem dX7_restore_26 : decode cX7_restore 26 = .ok (.aload_n 0, 1) := by decide +kernel
theorem dX7_restore_27 : decode cX7_restore 27 = .ok (.getfield 9, 3) := by decide +kernel
theorem dX7_restore_30 : decode cX7_restore 30 = .ok (.invokestatic 232, 3) := by decide +kernel
theorem dX7_restore_33 : decode cX7_restore 33 = .ok (.aload_n 0, 1) := by decide +kernel
theorem dX7_restore_34 : decode cX7_restore 34 = .ok (.getfield 9, 3) := by decide +kernel
theorem dX7_restore_37 : decode cX7_restore 37 = .ok (.iconst 0, 1) := by decide +kernel
theorem dX7_restore_38 : decode cX7_restore 38 = .ok (.iaload, 1) := by decide +kernel
theorem dX7_restore_39 : decode cX7_restore 39 = .ok (.ireturn, 1) := by decide +kernel
