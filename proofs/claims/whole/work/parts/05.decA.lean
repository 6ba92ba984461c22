theorem dJx00060_init_a7421_0 : decode cJx00060_init_a7421 0 = .ok (.aload_n 0, 1) := by decide +kernel
theorem dJx00060_init_a7421_1 : decode cJx00060_init_a7421 1 = .ok (.aload_n 1, 1) := by decide +kernel
theorem dJx00060_init_a7421_2 : decode cJx00060_init_a7421 2 = .ok (.invokespecial 7, 3) := by decide +kernel
theorem dJx00060_init_a7421_5 : decode cJx00060_init_a7421 5 = .ok (.return_, 1) := by decide +kernel
theorem dJxe99ae_isNaN_b9ae7_0 : decode cJxe99ae_isNaN_b9ae7 0 = .ok (.dload_n 0, 1) := by decide +kernel
theorem dJxe99ae_isNaN_b9ae7_1 : decode cJxe99ae_isNaN_b9ae7 1 = .ok (.dload_n 0, 1) := by decide +kernel
theorem dJxe99ae_isNaN_b9ae7_2 : decode cJxe99ae_isNaN_b9ae7 2 = .ok (.dcmp .l, 1) := by decide +kernel
theorem dJxe99ae_isNaN_b9ae7_3 : decode cJxe99ae_isNaN_b9ae7 3 = .ok (.ifCond .eq 7, 3) := by decide +kernel
theorem dJxe99ae_isNaN_b9ae7_6 : decode cJxe99ae_isNaN_b9ae7 6 = .ok (.iconst 1, 1) := by decide +kernel
theorem dJxe99ae_isNaN_b9ae7_7 : decode cJxe99ae_isNaN_b9ae7 7 = .ok (.goto 4, 3) := by decide +kernel
theorem dJxe99ae_isNaN_b9ae7_10 : decode cJxe99ae_isNaN_b9ae7 10 = .ok (.iconst 0, 1) := by decide +kernel
theorem dJxe99ae_isNaN_b9ae7_11 : decode cJxe99ae_isNaN_b9ae7 11 = .ok (.ireturn, 1) := by decide +kernel
theorem dJxe99ae_doubleToLongBits_ccdee_0 : decode cJxe99ae_doubleToLongBits_ccdee 0 = .ok (.dload_n 0, 1) := by decide +kernel
theorem dJxe99ae_doubleToLongBits_ccdee_1 : decode cJxe99ae_doubleToLongBits_ccdee 1 = .ok (.invokestatic 122, 3) := by decide +kernel
theorem dJxe99ae_doubleToLongBits_ccdee_4 : decode cJxe99ae_doubleToLongBits_ccdee 4 = .ok (.ifCond .ne 8, 3) := by decide +kernel
theorem dJxe99ae_doubleToLongBits_ccdee_7 : decode cJxe99ae_doubleToLongBits_ccdee 7 = .ok (.dload_n 0, 1) := by decide +kernel
theorem dJxe99ae_doubleToLongBits_ccdee_8 : decode cJxe99ae_doubleToLongBits_ccdee 8 = .ok (.invokestatic 134, 3) := by decide +kernel
theorem dJxe99ae_doubleToLongBits_ccdee_11 : decode cJxe99ae_doubleToLongBits_ccdee 11 = .ok (.lreturn, 1) := by decide +kernel
theorem dJxe99ae_doubleToLongBits_ccdee_12 : decode cJxe99ae_doubleToLongBits_ccdee 12 = .ok (.ldc2_w 137, 3) := by decide +kernel
theorem dJxe99ae_doubleToLongBits_ccdee_15 : decode cJxe99ae_doubleToLongBits_ccdee 15 = .ok (.lreturn, 1) := by decide +kernel
theorem dJxf58ca_isNaN_12338_0 : decode cJxf58ca_isNaN_12338 0 = .ok (.fload_n 0, 1) := by decide +kernel
theorem dJxf58ca_isNaN_12338_1 : decode cJxf58ca_isNaN_12338 1 = .ok (.fload_n 0, 1) := by decide +kernel
theorem dJxf58ca_isNaN_12338_2 : decode cJxf58ca_isNaN_12338 2 = .ok (.fcmp .l, 1) := by decide +kernel
theorem dJxf58ca_isNaN_12338_3 : decode cJxf58ca_isNaN_12338 3 = .ok (.ifCond .eq 7, 3) := by decide +kernel
theorem dJxf58ca_isNaN_12338_6 : decode cJxf58ca_isNaN_12338 6 = .ok (.iconst 1, 1) := by decide +kernel
theorem dJxf58ca_isNaN_12338_7 : decode cJxf58ca_isNaN_12338 7 = .ok (.goto 4, 3) := by decide +kernel
theorem dJxf58ca_isNaN_12338_10 : decode cJxf58ca_isNaN_12338 10 = .ok (.iconst 0, 1) := by decide +kernel
theorem dJxf58ca_isNaN_12338_11 : decode cJxf58ca_isNaN_12338 11 = .ok (.ireturn, 1) := by decide +kernel
theorem dJxf58ca_floatToIntBits_5c35a_0 : decode cJxf58ca_floatToIntBits_5c35a 0 = .ok (.fload_n 0, 1) := by decide +kernel
theorem dJxf58ca_floatToIntBits_5c35a_1 : decode cJxf58ca_floatToIntBits_5c35a 1 = .ok (.invokestatic 59, 3) := by decide +kernel
theorem dJxf58ca_floatToIntBits_5c35a_4 : decode cJxf58ca_floatToIntBits_5c35a 4 = .ok (.ifCond .ne 8, 3) := by decide +kernel
theorem dJxf58ca_floatToIntBits_5c35a_7 : decode cJxf58ca_floatToIntBits_5c35a 7 = .ok (.fload_n 0, 1) := by decide +kernel
theorem dJxf58ca_floatToIntBits_5c35a_8 : decode cJxf58ca_floatToIntBits_5c35a 8 = .ok (.invokestatic 74, 3) := by decide +kernel
theorem dJxf58ca_floatToIntBits_5c35a_11 : decode cJxf58ca_floatToIntBits_5c35a 11 = .ok (.ireturn, 1) := by decide +kernel
theorem dJxf58ca_floatToIntBits_5c35a_12 : decode cJxf58ca_floatToIntBits_5c35a 12 = .ok (.ldc 77, 2) := by decide +kernel
theorem dJxf58ca_floatToIntBits_5c35a_14 : decode cJxf58ca_floatToIntBits_5c35a 14 = .ok (.ireturn, 1) := by decide +kernel
theorem dJ6_bitCount_0f7a4_0 : decode cJ6_bitCount_0f7a4 0 = .ok (.iload_n 0, 1) := by decide +kernel
theorem dJ6_bitCount_0f7a4_1 : decode cJ6_bitCount_0f7a4 1 = .ok (.iload_n 0, 1) := by decide +kernel
theorem dJ6_bitCount_0f7a4_2 : decode cJ6_bitCount_0f7a4 2 = .ok (.iconst 1, 1) := by decide +kernel
theorem dJ6_bitCount_0f7a4_3 : decode cJ6_bitCount_0f7a4 3 = .ok (.iushr, 1) := by decide +kernel
theorem dJ6_bitCount_0f7a4_4 : decode cJ6_bitCount_0f7a4 4 = .ok (.ldc_w 265, 3) := by decide +kernel
theorem dJ6_bitCount_0f7a4_7 : decode cJ6_bitCount_0f7a4 7 = .ok (.iand, 1) := by decide +kernel
theorem dJ6_bitCount_0f7a4_8 : decode cJ6_bitCount_0f7a4 8 = .ok (.isub, 1) := by decide +kernel
theorem dJ6_bitCount_0f7a4_9 : decode cJ6_bitCount_0f7a4 9 = .ok (.istore_n 0, 1) := by decide +kernel
theorem dJ6_bitCount_0f7a4_10 : decode cJ6_bitCount_0f7a4 10 = .ok (.iload_n 0, 1) := by decide +kernel
theorem dJ6_bitCount_0f7a4_11 : decode cJ6_bitCount_0f7a4 11 = .ok (.ldc_w 266, 3) := by decide +kernel
theorem dJ6_bitCount_0f7a4_14 : decode cJ6_bitCount_0f7a4 14 = .ok (.iand, 1) := by decide +kernel
theorem dJ6_bitCount_0f7a4_15 : decode cJ6_bitCount_0f7a4 15 = .ok (.iload_n 0, 1) := by decide +kernel
theorem dJ6_bitCount_0f7a4_16 : decode cJ6_bitCount_0f7a4 16 = .ok (.iconst 2, 1) := by decide +kernel
theorem dJ6_bitCount_0f7a4_17 : decode cJ6_bitCount_0f7a4 17 = .ok (.iushr, 1) := by decide +kernel
theorem dJ6_bitCount_0f7a4_18 : decode cJ6_bitCount_0f7a4 18 = .ok (.ldc_w 266, 3) := by decide +kernel
theorem dJ6_bitCount_0f7a4_21 : decode cJ6_bitCount_0f7a4 21 = .ok (.iand, 1) := by decide +kernel
theorem dJ6_bitCount_0f7a4_22 : decode cJ6_bitCount_0f7a4 22 = .ok (.iadd, 1) := by decide +kernel
theorem dJ6_bitCount_0f7a4_23 : decode cJ6_bitCount_0f7a4 23 = .ok (.istore_n 0, 1) := by decide +kernel
theorem dJ6_bitCount_0f7a4_24 : decode cJ6_bitCount_0f7a4 24 = .ok (.iload_n 0, 1) := by decide +kernel
theorem dJ6_bitCount_0f7a4_25 : decode cJ6_bitCount_0f7a4 25 = .ok (.iload_n 0, 1) := by decide +kernel
theorem dJ6_bitCount_0f7a4_26 : decode cJ6_bitCount_0f7a4 26 = .ok (.iconst 4, 1) := by decide +kernel
theorem dJ6_bitCount_0f7a4_27 : decode cJ6_bitCount_0f7a4 27 = .ok (.iushr, 1) := by decide +kernel
theorem dJ6_bitCount_0f7a4_28 : decode cJ6_bitCount_0f7a4 28 = .ok (.iadd, 1) := by decide +kernel
theorem dJ6_bitCount_0f7a4_29 : decode cJ6_bitCount_0f7a4 29 = .ok (.ldc_w 267, 3) := by decide +kernel
theorem dJ6_bitCount_0f7a4_32 : decode cJ6_bitCount_0f7a4 32 = .ok (.iand, 1) := by decide +kernel
theorem dJ6_bitCount_0f7a4_33 : decode cJ6_bitCount_0f7a4 33 = .ok (.istore_n 0, 1) := by decide +kernel
theorem dJ6_bitCount_0f7a4_34 : decode cJ6_bitCount_0f7a4 34 = .ok (.iload_n 0, 1) := by decide +kernel
theorem dJ6_bitCount_0f7a4_35 : decode cJ6_bitCount_0f7a4 35 = .ok (.iload_n 0, 1) := by decide +kernel
theorem dJ6_bitCount_0f7a4_36 : decode cJ6_bitCount_0f7a4 36 = .ok (.bipush 8, 2) := by decide +kernel
theorem dJ6_bitCount_0f7a4_38 : decode cJ6_bitCount_0f7a4 38 = .ok (.iushr, 1) := by decide +kernel
theorem dJ6_bitCount_0f7a4_39 : decode cJ6_bitCount_0f7a4 39 = .ok (.iadd, 1) := by decide +kernel
theorem dJ6_bitCount_0f7a4_40 : decode cJ6_bitCount_0f7a4 40 = .ok (.istore_n 0, 1) := by decide +kernel
theorem dJ6_bitCount_0f7a4_41 : decode cJ6_bitCount_0f7a4 41 = .ok (.iload_n 0, 1) := by decide +kernel
theorem dJ6_bitCount_0f7a4_42 : decode cJ6_bitCount_0f7a4 42 = .ok (.iload_n 0, 1) := by decide +kernel
theorem dJ6_bitCount_0f7a4_43 : decode cJ6_bitCount_0f7a4 43 = .ok (.bipush 16, 2) := by decide +kernel
theorem dJ6_bitCount_0f7a4_45 : decode cJ6_bitCount_0f7a4 45 = .ok (.iushr, 1) := by decide +kernel
theorem dJ6_bitCount_0f7a4_46 : decode cJ6_bitCount_0f7a4 46 = .ok (.iadd, 1) := by decide +kernel
theorem dJ6_bitCount_0f7a4_47 : decode cJ6_bitCount_0f7a4 47 = .ok (.istore_n 0, 1) := by decide +kernel
theorem dJ6_bitCount_0f7a4_48 : decode cJ6_bitCount_0f7a4 48 = .ok (.iload_n 0, 1) := by decide +kernel
theorem dJ6_bitCount_0f7a4_49 : decode cJ6_bitCount_0f7a4 49 = .ok (.bipush 63, 2) := by decide +kernel
theorem dJ6_bitCount_0f7a4_51 : decode cJ6_bitCount_0f7a4 51 = .ok (.iand, 1) := by decide +kernel
theorem dJ6_bitCount_0f7a4_52 : decode cJ6_bitCount_0f7a4 52 = .ok (.ireturn, 1) := by decide +kernel
theorem dJ9_max_7cf53_0 : decode cJ9_max_7cf53 0 = .ok (.iload_n 0, 1) := by decide +kernel
theorem dJ9_max_7cf53_1 : decode cJ9_max_7cf53 1 = .ok (.iload_n 1, 1) := by decide +kernel
theorem dJ9_max_7cf53_2 : decode cJ9_max_7cf53 2 = .ok (.if_icmp .lt 7, 3) := by decide +kernel
theorem dJ9_max_7cf53_5 : decode cJ9_max_7cf53 5 = .ok (.iload_n 0, 1) := by decide +kernel
theorem dJ9_max_7cf53_6 : decode cJ9_max_7cf53 6 = .ok (.goto 4, 3) := by decide +kernel
theorem dJ9_max_7cf53_9 : decode cJ9_max_7cf53 9 = .ok (.iload_n 1, 1) := by decide +kernel
theorem dJ9_max_7cf53_10 : decode cJ9_max_7cf53 10 = .ok (.ireturn, 1) := by decide +kernel
theorem dJ9_min_7cf53_0 : decode cJ9_min_7cf53 0 = .ok (.iload_n 0, 1) := by decide +kernel
theorem dJ9_min_7cf53_1 : decode cJ9_min_7cf53 1 = .ok (.iload_n 1, 1) := by decide +kernel
theorem dJ9_min_7cf53_2 : decode cJ9_min_7cf53 2 = .ok (.if_icmp .gt 7, 3) := by decide +kernel
theorem dJ9_min_7cf53_5 : decode cJ9_min_7cf53 5 = .ok (.iload_n 0, 1) := by decide +kernel
theorem dJ9_min_7cf53_6 : decode cJ9_min_7cf53 6 = .ok (.goto 4, 3) := by decide +kernel
theorem dJ9_min_7cf53_9 : decode cJ9_min_7cf53 9 = .ok (.iload_n 1, 1) := by decide +kernel
theorem dJ9_min_7cf53_10 : decode cJ9_min_7cf53 10 = .ok (.ireturn, 1) := by decide +kernel
theorem dJ7_fill_53178_0 : decode cJ7_fill_53178 0 = .ok (.iconst 0, 1) := by decide +kernel
theorem dJ7_fill_53178_1 : decode cJ7_fill_53178 1 = .ok (.istore_n 2, 1) := by decide +kernel
theorem dJ7_fill_53178_2 : decode cJ7_fill_53178 2 = .ok (.aload_n 0, 1) := by decide +kernel
theorem dJ7_fill_53178_3 : decode cJ7_fill_53178 3 = .ok (.arraylength, 1) := by decide +kernel
theorem dJ7_fill_53178_4 : decode cJ7_fill_53178 4 = .ok (.istore_n 3, 1) := by decide +kernel
theorem dJ7_fill_53178_5 : decode cJ7_fill_53178 5 = .ok (.iload_n 2, 1) := by decide +kernel
theorem dJ7_fill_53178_6 : decode cJ7_fill_53178 6 = .ok (.iload_n 3, 1) := by decide +kernel
theorem dJ7_fill_53178_7 : decode cJ7_fill_53178 7 = .ok (.if_icmp .ge 13, 3) := by decide +kernel
theorem dJ7_fill_53178_10 : decode cJ7_fill_53178 10 = .ok (.aload_n 0, 1) := by decide +kernel
theorem dJ7_fill_53178_11 : decode cJ7_fill_53178 11 = .ok (.iload_n 2, 1) := by decide +kernel
theorem dJ7_fill_53178_12 : decode cJ7_fill_53178 12 = .ok (.iload_n 1, 1) := by decide +kernel
theorem dJ7_fill_53178_13 : decode cJ7_fill_53178 13 = .ok (.iastore, 1) := by decide +kernel
theorem dJ7_fill_53178_14 : decode cJ7_fill_53178 14 = .ok (.iinc 2 1, 3) := by decide +kernel
theorem dJ7_fill_53178_17 : decode cJ7_fill_53178 17 = .ok (.goto (-12), 3) := by decide +kernel
theorem dJ7_fill_53178_20 : decode cJ7_fill_53178 20 = .ok (.return_, 1) := by decide +kernel
theorem dX0_init_0 : decode cX0_init 0 = .ok (.aload_n 0, 1) := by decide +kernel
theorem dX0_init_1 : decode cX0_init 1 = .ok (.invokespecial 3, 3) := by decide +kernel
theorem dX0_init_4 : decode cX0_init 4 = .ok (.aload_n 0, 1) := by decide +kernel
theorem dX0_init_5 : decode cX0_init 5 = .ok (.bipush 101, 2) := by decide +kernel
theorem dX0_init_7 : decode cX0_init 7 = .ok (.newarray .int, 2) := by decide +kernel
theorem dX0_init_9 : decode cX0_init 9 = .ok (.putfield 9, 3) := by decide +kernel
theorem dX0_init_12 : decode cX0_init 12 = .ok (.aload_n 0, 1) := by decide +kernel
theorem dX0_init_13 : decode cX0_init 13 = .ok (.bipush 12, 2) := by decide +kernel
theorem dX0_init_15 : decode cX0_init 15 = .ok (.newarray .int, 2) := by decide +kernel
theorem dX0_init_17 : decode cX0_init 17 = .ok (.putfield 15, 3) := by decide +kernel
theorem dX0_init_20 : decode cX0_init 20 = .ok (.aload_n 0, 1) := by decide +kernel
theorem dX0_init_21 : decode cX0_init 21 = .ok (.bipush 12, 2) := by decide +kernel
theorem dX0_init_23 : decode cX0_init 23 = .ok (.newarray .int, 2) := by decide +kernel
theorem dX0_init_25 : decode cX0_init 25 = .ok (.putfield 18, 3) := by decide +kernel
theorem dX0_init_28 : decode cX0_init 28 = .ok (.aload_n 0, 1) := by decide +kernel
theorem dX0_init_29 : decode cX0_init 29 = .ok (.bipush 12, 2) := by decide +kernel
theorem dX0_init_31 : decode cX0_init 31 = .ok (.newarray .int, 2) := by decide +kernel
theorem dX0_init_33 : decode cX0_init 33 = .ok (.putfield 21, 3) := by decide +kernel
theorem dX0_init_36 : decode cX0_init 36 = .ok (.aload_n 0, 1) := by decide +kernel
theorem dX0_init_37 : decode cX0_init 37 = .ok (.iconst 0, 1) := by decide +kernel
theorem dX0_init_38 : decode cX0_init 38 = .ok (.putfield 24, 3) := by decide +kernel
theorem dX0_init_41 : decode cX0_init 41 = .ok (.aload_n 0, 1) := by decide +kernel
theorem dX0_init_42 : decode cX0_init 42 = .ok (.iconst 0, 1) := by decide +kernel
theorem dX0_init_43 : decode cX0_init 43 = .ok (.putfield 28, 3) := by decide +kernel
theorem dX0_init_46 : decode cX0_init 46 = .ok (.aload_n 0, 1) := by decide +kernel
theorem dX0_init_47 : decode cX0_init 47 = .ok (.iconst 0, 1) := by decide +kernel
theorem dX0_init_48 : decode cX0_init 48 = .ok (.putfield 32, 3) := by decide +kernel
theorem dX0_init_51 : decode cX0_init 51 = .ok (.aload_n 0, 1) := by decide +kernel
theorem dX0_init_52 : decode cX0_init 52 = .ok (.iconst 0, 1) := by decide +kernel
theorem dX0_init_53 : decode cX0_init 53 = .ok (.putfield 35, 3) := by decide +kernel
theorem dX0_init_56 : decode cX0_init 56 = .ok (.aload_n 0, 1) := by decide +kernel
theorem dX0_init_57 : decode cX0_init 57 = .ok (.iconst 0, 1) := by decide +kernel
theorem dX0_init_58 : decode cX0_init 58 = .ok (.putfield 38, 3) := by decide +kernel
theorem dX0_init_61 : decode cX0_init 61 = .ok (.aload_n 0, 1) := by decide +kernel
theorem dX0_init_62 : decode cX0_init 62 = .ok (.iconst 0, 1) := by decide +kernel
theorem dX0_init_63 : decode cX0_init 63 = .ok (.putfield 41, 3) := by decide +kernel
theorem dX0_init_66 : decode cX0_init 66 = .ok (.return_, 1) := by decide +kernel
theorem dX0_begin_0 : decode cX0_begin 0 = .ok (.aload_n 0, 1) := by decide +kernel
theorem dX0_begin_1 : decode cX0_begin 1 = .ok (.iconst 1, 1) := by decide +kernel
theorem dX0_begin_2 : decode cX0_begin 2 = .ok (.putfield 24, 3) := by decide +kernel
theorem dX0_begin_5 : decode cX0_begin 5 = .ok (.aload_n 0, 1) := by decide +kernel
theorem dX0_begin_6 : decode cX0_begin 6 = .ok (.iconst 0, 1) := by decide +kernel
theorem dX0_begin_7 : decode cX0_begin 7 = .ok (.putfield 28, 3) := by decide +kernel
theorem dX0_begin_10 : decode cX0_begin 10 = .ok (.aload_n 0, 1) := by decide +kernel
theorem dX0_begin_11 : decode cX0_begin 11 = .ok (.getfield 9, 3) := by decide +kernel
theorem dX0_begin_14 : decode cX0_begin 14 = .ok (.iconst 0, 1) := by decide +kernel
theorem dX0_begin_15 : decode cX0_begin 15 = .ok (.iload_n 2, 1) := by decide +kernel
theorem dX0_begin_16 : decode cX0_begin 16 = .ok (.iastore, 1) := by decide +kernel
theorem dX0_begin_17 : decode cX0_begin 17 = .ok (.aload_n 0, 1) := by decide +kernel
theorem dX0_begin_18 : decode cX0_begin 18 = .ok (.aload_n 1, 1) := by decide +kernel
theorem dX0_begin_19 : decode cX0_begin 19 = .ok (.invokevirtual 44, 3) := by decide +kernel
theorem dX0_begin_22 : decode cX0_begin 22 = .ok (.putfield 32, 3) := by decide +kernel
theorem dX0_begin_25 : decode cX0_begin 25 = .ok (.aload_n 0, 1) := by decide +kernel
theorem dX0_begin_26 : decode cX0_begin 26 = .ok (.aload_n 1, 1) := by decide +kernel
theorem dX0_begin_27 : decode cX0_begin 27 = .ok (.getfield 50, 3) := by decide +kernel
theorem dX0_begin_30 : decode cX0_begin 30 = .ok (.putfield 35, 3) := by decide +kernel
theorem dX0_begin_33 : decode cX0_begin 33 = .ok (.aload_n 0, 1) := by decide +kernel
theorem dX0_begin_34 : decode cX0_begin 34 = .ok (.iconst 0, 1) := by decide +kernel
theorem dX0_begin_35 : decode cX0_begin 35 = .ok (.putfield 38, 3) := by decide +kernel
theorem dX0_begin_38 : decode cX0_begin 38 = .ok (.aload_n 0, 1) := by decide +kernel
theorem dX0_begin_39 : decode cX0_begin 39 = .ok (.iconst 0, 1) := by decide +kernel
theorem dX0_begin_40 : decode cX0_begin 40 = .ok (.putfield 41, 3) := by decide +kernel
theorem dX0_begin_43 : decode cX0_begin 43 = .ok (.aload_n 0, 1) := by decide +kernel
theorem dX0_begin_44 : decode cX0_begin 44 = .ok (.aload_n 1, 1) := by decide +kernel
theorem dX0_begin_45 : decode cX0_begin 45 = .ok (.invokevirtual 53, 3) := by decide +kernel
theorem dX0_begin_48 : decode cX0_begin 48 = .ok (.return_, 1) := by decide +kernel
theorem dX0_isOver_0 : decode cX0_isOver 0 = .ok (.aload_n 0, 1) := by decide +kernel
theorem dX0_isOver_1 : decode cX0_isOver 1 = .ok (.getfield 35, 3) := by decide +kernel
theorem dX0_isOver_4 : decode cX0_isOver 4 = .ok (.ifCond .ne 7, 3) := by decide +kernel
theorem dX0_isOver_7 : decode cX0_isOver 7 = .ok (.iconst 1, 1) := by decide +kernel
theorem dX0_isOver_8 : decode cX0_isOver 8 = .ok (.goto 4, 3) := by decide +kernel
theorem dX0_isOver_11 : decode cX0_isOver 11 = .ok (.iconst 0, 1) := by decide +kernel
theorem dX0_isOver_12 : decode cX0_isOver 12 = .ok (.ireturn, 1) := by decide +kernel
theorem dX0_lower_0 : decode cX0_lower 0 = .ok (.aload_n 0, 1) := by decide +kernel
theorem dX0_lower_1 : decode cX0_lower 1 = .ok (.getfield 28, 3) := by decide +kernel
theorem dX0_lower_4 : decode cX0_lower 4 = .ok (.iconst 1, 1) := by decide +kernel
theorem dX0_lower_5 : decode cX0_lower 5 = .ok (.iadd, 1) := by decide +kernel
theorem dX0_lower_6 : decode cX0_lower 6 = .ok (.bipush 101, 2) := by decide +kernel
theorem dX0_lower_8 : decode cX0_lower 8 = .ok (.if_icmp .ge 39, 3) := by decide +kernel
theorem dX0_lower_11 : decode cX0_lower 11 = .ok (.aload_n 0, 1) := by decide +kernel
theorem dX0_lower_12 : decode cX0_lower 12 = .ok (.dup, 1) := by decide +kernel
theorem dX0_lower_13 : decode cX0_lower 13 = .ok (.getfield 28, 3) := by decide +kernel
theorem dX0_lower_16 : decode cX0_lower 16 = .ok (.iconst 1, 1) := by decide +kernel
theorem dX0_lower_17 : decode cX0_lower 17 = .ok (.iadd, 1) := by decide +kernel
theorem dX0_lower_18 : decode cX0_lower 18 = .ok (.putfield 28, 3) := by decide +kernel
theorem dX0_lower_21 : decode cX0_lower 21 = .ok (.aload_n 0, 1) := by decide +kernel
theorem dX0_lower_22 : decode cX0_lower 22 = .ok (.getfield 9, 3) := by decide +kernel
theorem dX0_lower_25 : decode cX0_lower 25 = .ok (.aload_n 0, 1) := by decide +kernel
theorem dX0_lower_26 : decode cX0_lower 26 = .ok (.getfield 28, 3) := by decide +kernel
theorem dX0_lower_29 : decode cX0_lower 29 = .ok (.iconst 0, 1) := by decide +kernel
theorem dX0_lower_30 : decode cX0_lower 30 = .ok (.aload_n 0, 1) := by decide +kernel
theorem dX0_lower_31 : decode cX0_lower 31 = .ok (.getfield 9, 3) := by decide +kernel
theorem dX0_lower_34 : decode cX0_lower 34 = .ok (.aload_n 0, 1) := by decide +kernel
theorem dX0_lower_35 : decode cX0_lower 35 = .ok (.getfield 28, 3) := by decide +kernel
theorem dX0_lower_38 : decode cX0_lower 38 = .ok (.iconst 1, 1) := by decide +kernel
theorem dX0_lower_39 : decode cX0_lower 39 = .ok (.isub, 1) := by decide +kernel
theorem dX0_lower_40 : decode cX0_lower 40 = .ok (.iaload, 1) := by decide +kernel
theorem dX0_lower_41 : decode cX0_lower 41 = .ok (.iload_n 1, 1) := by decide +kernel
theorem dX0_lower_42 : decode cX0_lower 42 = .ok (.isub, 1) := by decide +kernel
theorem dX0_lower_43 : decode cX0_lower 43 = .ok (.invokestatic 57, 3) := by decide +kernel
theorem dX0_lower_46 : decode cX0_lower 46 = .ok (.iastore, 1) := by decide +kernel
theorem dX0_lower_47 : decode cX0_lower 47 = .ok (.return_, 1) := by decide +kernel
theorem dX0_priceBidders_0 : decode cX0_priceBidders 0 = .ok (.iconst 0, 1) := by decide +kernel
theorem dX0_priceBidders_1 : decode cX0_priceBidders 1 = .ok (.istore_n 2, 1) := by decide +kernel
theorem dX0_priceBidders_2 : decode cX0_priceBidders 2 = .ok (.iload_n 2, 1) := by decide +kernel
theorem dX0_priceBidders_3 : decode cX0_priceBidders 3 = .ok (.bipush 12, 2) := by decide +kernel
theorem dX0_priceBidders_5 : decode cX0_priceBidders 5 = .ok (.if_icmp .ge 40, 3) := by decide +kernel
theorem dX0_priceBidders_8 : decode cX0_priceBidders 8 = .ok (.aload_n 0, 1) := by decide +kernel
theorem dX0_priceBidders_9 : decode cX0_priceBidders 9 = .ok (.getfield 35, 3) := by decide +kernel
theorem dX0_priceBidders_12 : decode cX0_priceBidders 12 = .ok (.iload_n 2, 1) := by decide +kernel
theorem dX0_priceBidders_13 : decode cX0_priceBidders 13 = .ok (.invokestatic 63, 3) := by decide +kernel
theorem dX0_priceBidders_16 : decode cX0_priceBidders 16 = .ok (.ifCond .eq 23, 3) := by decide +kernel
theorem dX0_priceBidders_19 : decode cX0_priceBidders 19 = .ok (.aload_n 0, 1) := by decide +kernel
theorem dX0_priceBidders_20 : decode cX0_priceBidders 20 = .ok (.getfield 15, 3) := by decide +kernel
theorem dX0_priceBidders_23 : decode cX0_priceBidders 23 = .ok (.iload_n 2, 1) := by decide +kernel
theorem dX0_priceBidders_24 : decode cX0_priceBidders 24 = .ok (.aload_n 1, 1) := by decide +kernel
theorem dX0_priceBidders_25 : decode cX0_priceBidders 25 = .ok (.iload_n 2, 1) := by decide +kernel
theorem dX0_priceBidders_26 : decode cX0_priceBidders 26 = .ok (.aload_n 0, 1) := by decide +kernel
theorem dX0_priceBidders_27 : decode cX0_priceBidders 27 = .ok (.getfield 9, 3) := by decide +kernel
theorem dX0_priceBidders_30 : decode cX0_priceBidders 30 = .ok (.aload_n 0, 1) := by decide +kernel
theorem dX0_priceBidders_31 : decode cX0_priceBidders 31 = .ok (.getfield 28, 3) := by decide +kernel
theorem dX0_priceBidders_34 : decode cX0_priceBidders 34 = .ok (.iaload, 1) := by decide +kernel
theorem dX0_priceBidders_35 : decode cX0_priceBidders 35 = .ok (.invokevirtual 67, 3) := by decide +kernel
theorem dX0_priceBidders_38 : decode cX0_priceBidders 38 = .ok (.iastore, 1) := by decide +kernel
theorem dX0_priceBidders_39 : decode cX0_priceBidders 39 = .ok (.iinc 2 1, 3) := by decide +kernel
theorem dX0_priceBidders_42 : decode cX0_priceBidders 42 = .ok (.goto (-40), 3) := by decide +kernel
theorem dX0_priceBidders_45 : decode cX0_priceBidders 45 = .ok (.return_, 1) := by decide +kernel
theorem dX0_putOnAir_0 : decode cX0_putOnAir 0 = .ok (.aload_n 0, 1) := by decide +kernel
theorem dX0_putOnAir_1 : decode cX0_putOnAir 1 = .ok (.dup, 1) := by decide +kernel
theorem dX0_putOnAir_2 : decode cX0_putOnAir 2 = .ok (.getfield 35, 3) := by decide +kernel
theorem dX0_putOnAir_5 : decode cX0_putOnAir 5 = .ok (.iconst 1, 1) := by decide +kernel
theorem dX0_putOnAir_6 : decode cX0_putOnAir 6 = .ok (.iload_n 1, 1) := by decide +kernel
theorem dX0_putOnAir_7 : decode cX0_putOnAir 7 = .ok (.ishl, 1) := by decide +kernel
theorem dX0_putOnAir_8 : decode cX0_putOnAir 8 = .ok (.iconst (-1), 1) := by decide +kernel
theorem dX0_putOnAir_9 : decode cX0_putOnAir 9 = .ok (.ixor, 1) := by decide +kernel
theorem dX0_putOnAir_10 : decode cX0_putOnAir 10 = .ok (.iand, 1) := by decide +kernel
theorem dX0_putOnAir_11 : decode cX0_putOnAir 11 = .ok (.putfield 35, 3) := by decide +kernel
theorem dX0_putOnAir_14 : decode cX0_putOnAir 14 = .ok (.aload_n 0, 1) := by decide +kernel
theorem dX0_putOnAir_15 : decode cX0_putOnAir 15 = .ok (.dup, 1) := by decide +kernel
theorem dX0_putOnAir_16 : decode cX0_putOnAir 16 = .ok (.getfield 32, 3) := by decide +kernel
theorem dX0_putOnAir_19 : decode cX0_putOnAir 19 = .ok (.iconst 1, 1) := by decide +kernel
theorem dX0_putOnAir_20 : decode cX0_putOnAir 20 = .ok (.iload_n 1, 1) := by decide +kernel
theorem dX0_putOnAir_21 : decode cX0_putOnAir 21 = .ok (.ishl, 1) := by decide +kernel
theorem dX0_putOnAir_22 : decode cX0_putOnAir 22 = .ok (.ior, 1) := by decide +kernel
theorem dX0_putOnAir_23 : decode cX0_putOnAir 23 = .ok (.putfield 32, 3) := by decide +kernel
theorem dX0_putOnAir_26 : decode cX0_putOnAir 26 = .ok (.aload_n 0, 1) := by decide +kernel
theorem dX0_putOnAir_27 : decode cX0_putOnAir 27 = .ok (.iload_n 1, 1) := by decide +kernel
theorem dX0_putOnAir_28 : decode cX0_putOnAir 28 = .ok (.iconst 0, 1) := by decide +kernel
theorem dX0_putOnAir_29 : decode cX0_putOnAir 29 = .ok (.invokevirtual 70, 3) := by decide +kernel
theorem dX0_putOnAir_32 : decode cX0_putOnAir 32 = .ok (.return_, 1) := by decide +kernel
theorem dX0_freeze_0 : decode cX0_freeze 0 = .ok (.aload_n 0, 1) := by decide +kernel
theorem dX0_freeze_1 : decode cX0_freeze 1 = .ok (.dup, 1) := by decide +kernel
theorem dX0_freeze_2 : decode cX0_freeze 2 = .ok (.getfield 35, 3) := by decide +kernel
theorem dX0_freeze_5 : decode cX0_freeze 5 = .ok (.iconst 1, 1) := by decide +kernel
theorem dX0_freeze_6 : decode cX0_freeze 6 = .ok (.iload_n 1, 1) := by decide +kernel
theorem dX0_freeze_7 : decode cX0_freeze 7 = .ok (.ishl, 1) := by decide +kernel
theorem dX0_freeze_8 : decode cX0_freeze 8 = .ok (.iconst (-1), 1) := by decide +kernel
theorem dX0_freeze_9 : decode cX0_freeze 9 = .ok (.ixor, 1) := by decide +kernel
theorem dX0_freeze_10 : decode cX0_freeze 10 = .ok (.iand, 1) := by decide +kernel
theorem dX0_freeze_11 : decode cX0_freeze 11 = .ok (.putfield 35, 3) := by decide +kernel
theorem dX0_freeze_14 : decode cX0_freeze 14 = .ok (.aload_n 0, 1) := by decide +kernel
theorem dX0_freeze_15 : decode cX0_freeze 15 = .ok (.dup, 1) := by decide +kernel
theorem dX0_freeze_16 : decode cX0_freeze 16 = .ok (.getfield 38, 3) := by decide +kernel
theorem dX0_freeze_19 : decode cX0_freeze 19 = .ok (.iconst 1, 1) := by decide +kernel
theorem dX0_freeze_20 : decode cX0_freeze 20 = .ok (.iload_n 1, 1) := by decide +kernel
theorem dX0_freeze_21 : decode cX0_freeze 21 = .ok (.ishl, 1) := by decide +kernel
theorem dX0_freeze_22 : decode cX0_freeze 22 = .ok (.ior, 1) := by decide +kernel
theorem dX0_freeze_23 : decode cX0_freeze 23 = .ok (.putfield 38, 3) := by decide +kernel
theorem dX0_freeze_26 : decode cX0_freeze 26 = .ok (.aload_n 0, 1) := by decide +kernel
theorem dX0_freeze_27 : decode cX0_freeze 27 = .ok (.getfield 18, 3) := by decide +kernel
theorem dX0_freeze_30 : decode cX0_freeze 30 = .ok (.iload_n 1, 1) := by decide +kernel
theorem dX0_freeze_31 : decode cX0_freeze 31 = .ok (.iload_n 2, 1) := by decide +kernel
theorem dX0_freeze_32 : decode cX0_freeze 32 = .ok (.iastore, 1) := by decide +kernel
theorem dX0_freeze_33 : decode cX0_freeze 33 = .ok (.aload_n 0, 1) := by decide +kernel
theorem dX0_freeze_34 : decode cX0_freeze 34 = .ok (.iload_n 1, 1) := by decide +kernel
theorem dX0_freeze_35 : decode cX0_freeze 35 = .ok (.iload_n 3, 1) := by decide +kernel
theorem dX0_freeze_36 : decode cX0_freeze 36 = .ok (.invokevirtual 70, 3) := by decide +kernel
theorem dX0_freeze_39 : decode cX0_freeze 39 = .ok (.return_, 1) := by decide +kernel
theorem dX0_freezeBidders_0 : decode cX0_freezeBidders 0 = .ok (.iconst 0, 1) := by decide +kernel
theorem dX0_freezeBidders_1 : decode cX0_freezeBidders 1 = .ok (.istore_n 1, 1) := by decide +kernel
theorem dX0_freezeBidders_2 : decode cX0_freezeBidders 2 = .ok (.iload_n 1, 1) := by decide +kernel
theorem dX0_freezeBidders_3 : decode cX0_freezeBidders 3 = .ok (.bipush 12, 2) := by decide +kernel
theorem dX0_freezeBidders_5 : decode cX0_freezeBidders 5 = .ok (.if_icmp .ge 27, 3) := by decide +kernel
theorem dX0_freezeBidders_8 : decode cX0_freezeBidders 8 = .ok (.aload_n 0, 1) := by decide +kernel
theorem dX0_freezeBidders_9 : decode cX0_freezeBidders 9 = .ok (.getfield 35, 3) := by decide +kernel
theorem dX0_freezeBidders_12 : decode cX0_freezeBidders 12 = .ok (.iload_n 1, 1) := by decide +kernel
theorem dX0_freezeBidders_13 : decode cX0_freezeBidders 13 = .ok (.invokestatic 63, 3) := by decide +kernel
theorem dX0_freezeBidders_16 : decode cX0_freezeBidders 16 = .ok (.ifCond .eq 10, 3) := by decide +kernel
theorem dX0_freezeBidders_19 : decode cX0_freezeBidders 19 = .ok (.aload_n 0, 1) := by decide +kernel
theorem dX0_freezeBidders_20 : decode cX0_freezeBidders 20 = .ok (.iload_n 1, 1) := by decide +kernel
theorem dX0_freezeBidders_21 : decode cX0_freezeBidders 21 = .ok (.iconst (-1), 1) := by decide +kernel
theorem dX0_freezeBidders_22 : decode cX0_freezeBidders 22 = .ok (.iconst 2, 1) := by decide +kernel
theorem dX0_freezeBidders_23 : decode cX0_freezeBidders 23 = .ok (.invokevirtual 74, 3) := by decide +kernel
theorem dX0_freezeBidders_26 : decode cX0_freezeBidders 26 = .ok (.iinc 1 1, 3) := by decide +kernel
theorem dX0_freezeBidders_29 : decode cX0_freezeBidders 29 = .ok (.goto (-27), 3) := by decide +kernel
theorem dX0_freezeBidders_32 : decode cX0_freezeBidders 32 = .ok (.return_, 1) := by decide +kernel
theorem dX0_note_0 : decode cX0_note 0 = .ok (.aload_n 0, 1) := by decide +kernel
theorem dX0_note_1 : decode cX0_note 1 = .ok (.getfield 41, 3) := by decide +kernel
theorem dX0_note_4 : decode cX0_note 4 = .ok (.bipush 12, 2) := by decide +kernel
theorem dX0_note_6 : decode cX0_note 6 = .ok (.if_icmp .ge 37, 3) := by decide +kernel
theorem dX0_note_9 : decode cX0_note 9 = .ok (.aload_n 0, 1) := by decide +kernel
theorem dX0_note_10 : decode cX0_note 10 = .ok (.getfield 21, 3) := by decide +kernel
theorem dX0_note_13 : decode cX0_note 13 = .ok (.aload_n 0, 1) := by decide +kernel
theorem dX0_note_14 : decode cX0_note 14 = .ok (.getfield 41, 3) := by decide +kernel
theorem dX0_note_17 : decode cX0_note 17 = .ok (.sipush 1000, 3) := by decide +kernel
theorem dX0_note_20 : decode cX0_note 20 = .ok (.aload_n 0, 1) := by decide +kernel
theorem dX0_note_21 : decode cX0_note 21 = .ok (.getfield 28, 3) := by decide +kernel
theorem dX0_note_24 : decode cX0_note 24 = .ok (.imul, 1) := by decide +kernel
theorem dX0_note_25 : decode cX0_note 25 = .ok (.bipush 10, 2) := by decide +kernel
theorem dX0_note_27 : decode cX0_note 27 = .ok (.iload_n 1, 1) := by decide +kernel
theorem dX0_note_28 : decode cX0_note 28 = .ok (.imul, 1) := by decide +kernel
theorem dX0_note_29 : decode cX0_note 29 = .ok (.iadd, 1) := by decide +kernel
theorem dX0_note_30 : decode cX0_note 30 = .ok (.iload_n 2, 1) := by decide +kernel
theorem dX0_note_31 : decode cX0_note 31 = .ok (.iadd, 1) := by decide +kernel
theorem dX0_note_32 : decode cX0_note 32 = .ok (.iastore, 1) := by decide +kernel
theorem dX0_note_33 : decode cX0_note 33 = .ok (.aload_n 0, 1) := by decide +kernel
theorem dX0_note_34 : decode cX0_note 34 = .ok (.dup, 1) := by decide +kernel
theorem dX0_note_35 : decode cX0_note 35 = .ok (.getfield 41, 3) := by decide +kernel
theorem dX0_note_38 : decode cX0_note 38 = .ok (.iconst 1, 1) := by decide +kernel
theorem dX0_note_39 : decode cX0_note 39 = .ok (.iadd, 1) := by decide +kernel
theorem dX0_note_40 : decode cX0_note 40 = .ok (.putfield 41, 3) := by decide +kernel
theorem dX0_note_43 : decode cX0_note 43 = .ok (.return_, 1) := by decide +kernel
theorem dX0_returnTo_0 : decode cX0_returnTo 0 = .ok (.aload_n 0, 1) := by decide +kernel
theorem dX0_returnTo_1 : decode cX0_returnTo 1 = .ok (.getfield 41, 3) := by decide +kernel
theorem dX0_returnTo_4 : decode cX0_returnTo 4 = .ok (.ifCond .le 92, 3) := by decide +kernel
theorem dX0_returnTo_7 : decode cX0_returnTo 7 = .ok (.aload_n 0, 1) := by decide +kernel
theorem dX0_returnTo_8 : decode cX0_returnTo 8 = .ok (.getfield 21, 3) := by decide +kernel
theorem dX0_returnTo_11 : decode cX0_returnTo 11 = .ok (.aload_n 0, 1) := by decide +kernel
theorem dX0_returnTo_12 : decode cX0_returnTo 12 = .ok (.getfield 41, 3) := by decide +kernel
theorem dX0_returnTo_15 : decode cX0_returnTo 15 = .ok (.iconst 1, 1) := by decide +kernel
theorem dX0_returnTo_16 : decode cX0_returnTo 16 = .ok (.isub, 1) := by decide +kernel
theorem dX0_returnTo_17 : decode cX0_returnTo 17 = .ok (.iaload, 1) := by decide +kernel
theorem dX0_returnTo_18 : decode cX0_returnTo 18 = .ok (.sipush 1000, 3) := by decide +kernel
theorem dX0_returnTo_21 : decode cX0_returnTo 21 = .ok (.idiv, 1) := by decide +kernel
theorem dX0_returnTo_22 : decode cX0_returnTo 22 = .ok (.iload_n 1, 1) := by decide +kernel
theorem dX0_returnTo_23 : decode cX0_returnTo 23 = .ok (.if_icmp .le 73, 3) := by decide +kernel
theorem dX0_returnTo_26 : decode cX0_returnTo 26 = .ok (.aload_n 0, 1) := by decide +kernel
theorem dX0_returnTo_27 : decode cX0_returnTo 27 = .ok (.dup, 1) := by decide +kernel
theorem dX0_returnTo_28 : decode cX0_returnTo 28 = .ok (.getfield 41, 3) := by decide +kernel
theorem dX0_returnTo_31 : decode cX0_returnTo 31 = .ok (.iconst 1, 1) := by decide +kernel
theorem dX0_returnTo_32 : decode cX0_returnTo 32 = .ok (.isub, 1) := by decide +kernel
theorem dX0_returnTo_33 : decode cX0_returnTo 33 = .ok (.putfield 41, 3) := by decide +kernel
theorem dX0_returnTo_36 : decode cX0_returnTo 36 = .ok (.aload_n 0, 1) := by decide +kernel
theorem dX0_returnTo_37 : decode cX0_returnTo 37 = .ok (.getfield 21, 3) := by decide +kernel
theorem dX0_returnTo_40 : decode cX0_returnTo 40 = .ok (.aload_n 0, 1) := by decide +kernel
theorem dX0_returnTo_41 : decode cX0_returnTo 41 = .ok (.getfield 41, 3) := by decide +kernel
theorem dX0_returnTo_44 : decode cX0_returnTo 44 = .ok (.iaload, 1) := by decide +kernel
theorem dX0_returnTo_45 : decode cX0_returnTo 45 = .ok (.sipush 1000, 3) := by decide +kernel
theorem dX0_returnTo_48 : decode cX0_returnTo 48 = .ok (.irem, 1) := by decide +kernel
theorem dX0_returnTo_49 : decode cX0_returnTo 49 = .ok (.bipush 10, 2) := by decide +kernel
theorem dX0_returnTo_51 : decode cX0_returnTo 51 = .ok (.idiv, 1) := by decide +kernel
theorem dX0_returnTo_52 : decode cX0_returnTo 52 = .ok (.istore_n 3, 1) := by decide +kernel
theorem dX0_returnTo_53 : decode cX0_returnTo 53 = .ok (.aload_n 0, 1) := by decide +kernel
theorem dX0_returnTo_54 : decode cX0_returnTo 54 = .ok (.dup, 1) := by decide +kernel
theorem dX0_returnTo_55 : decode cX0_returnTo 55 = .ok (.getfield 32, 3) := by decide +kernel
theorem dX0_returnTo_58 : decode cX0_returnTo 58 = .ok (.iconst 1, 1) := by decide +kernel
theorem dX0_returnTo_59 : decode cX0_returnTo 59 = .ok (.iload_n 3, 1) := by decide +kernel
theorem dX0_returnTo_60 : decode cX0_returnTo 60 = .ok (.ishl, 1) := by decide +kernel
theorem dX0_returnTo_61 : decode cX0_returnTo 61 = .ok (.iconst (-1), 1) := by decide +kernel
theorem dX0_returnTo_62 : decode cX0_returnTo 62 = .ok (.ixor, 1) := by decide +kernel
theorem dX0_returnTo_63 : decode cX0_returnTo 63 = .ok (.iand, 1) := by decide +kernel
theorem dX0_returnTo_64 : decode cX0_returnTo 64 = .ok (.putfield 32, 3) := by decide +kernel
theorem dX0_returnTo_67 : decode cX0_returnTo 67 = .ok (.aload_n 0, 1) := by decide +kernel
theorem dX0_returnTo_68 : decode cX0_returnTo 68 = .ok (.dup, 1) := by decide +kernel
theorem dX0_returnTo_69 : decode cX0_returnTo 69 = .ok (.getfield 38, 3) := by decide +kernel
theorem dX0_returnTo_72 : decode cX0_returnTo 72 = .ok (.iconst 1, 1) := by decide +kernel
theorem dX0_returnTo_73 : decode cX0_returnTo 73 = .ok (.iload_n 3, 1) := by decide +kernel
theorem dX0_returnTo_74 : decode cX0_returnTo 74 = .ok (.ishl, 1) := by decide +kernel
theorem dX0_returnTo_75 : decode cX0_returnTo 75 = .ok (.iconst (-1), 1) := by decide +kernel
theorem dX0_returnTo_76 : decode cX0_returnTo 76 = .ok (.ixor, 1) := by decide +kernel
theorem dX0_returnTo_77 : decode cX0_returnTo 77 = .ok (.iand, 1) := by decide +kernel
theorem dX0_returnTo_78 : decode cX0_returnTo 78 = .ok (.putfield 38, 3) := by decide +kernel
theorem dX0_returnTo_81 : decode cX0_returnTo 81 = .ok (.aload_n 0, 1) := by decide +kernel
theorem dX0_returnTo_82 : decode cX0_returnTo 82 = .ok (.dup, 1) := by decide +kernel
theorem dX0_returnTo_83 : decode cX0_returnTo 83 = .ok (.getfield 35, 3) := by decide +kernel
theorem dX0_returnTo_86 : decode cX0_returnTo 86 = .ok (.iconst 1, 1) := by decide +kernel
theorem dX0_returnTo_87 : decode cX0_returnTo 87 = .ok (.iload_n 3, 1) := by decide +kernel
theorem dX0_returnTo_88 : decode cX0_returnTo 88 = .ok (.ishl, 1) := by decide +kernel
theorem dX0_returnTo_89 : decode cX0_returnTo 89 = .ok (.ior, 1) := by decide +kernel
theorem dX0_returnTo_90 : decode cX0_returnTo 90 = .ok (.putfield 35, 3) := by decide +kernel
theorem dX0_returnTo_93 : decode cX0_returnTo 93 = .ok (.goto (-93), 3) := by decide +kernel
theorem dX0_returnTo_96 : decode cX0_returnTo 96 = .ok (.aload_n 0, 1) := by decide +kernel
theorem dX0_returnTo_97 : decode cX0_returnTo 97 = .ok (.iload_n 1, 1) := by decide +kernel
theorem dX0_returnTo_98 : decode cX0_returnTo 98 = .ok (.putfield 28, 3) := by decide +kernel
theorem dX0_returnTo_101 : decode cX0_returnTo 101 = .ok (.aload_n 0, 1) := by decide +kernel
theorem dX0_returnTo_102 : decode cX0_returnTo 102 = .ok (.aload_n 2, 1) := by decide +kernel
theorem dX0_returnTo_103 : decode cX0_returnTo 103 = .ok (.invokevirtual 53, 3) := by decide +kernel
theorem dX0_returnTo_106 : decode cX0_returnTo 106 = .ok (.return_, 1) := by decide +kernel
theorem dX0_copyFrom_0 : decode cX0_copyFrom 0 = .ok (.aload_n 1, 1) := by decide +kernel
theorem dX0_copyFrom_1 : decode cX0_copyFrom 1 = .ok (.getfield 9, 3) := by decide +kernel
theorem dX0_copyFrom_4 : decode cX0_copyFrom 4 = .ok (.iconst 0, 1) := by decide +kernel
theorem dX0_copyFrom_5 : decode cX0_copyFrom 5 = .ok (.aload_n 0, 1) := by decide +kernel
theorem dX0_copyFrom_6 : decode cX0_copyFrom 6 = .ok (.getfield 9, 3) := by decide +kernel
theorem dX0_copyFrom_9 : decode cX0_copyFrom 9 = .ok (.iconst 0, 1) := by decide +kernel
theorem dX0_copyFrom_10 : decode cX0_copyFrom 10 = .ok (.bipush 101, 2) := by decide +kernel
theorem dX0_copyFrom_12 : decode cX0_copyFrom 12 = .ok (.invokestatic 78, 3) := by decide +kernel
theorem dX0_copyFrom_15 : decode cX0_copyFrom 15 = .ok (.aload_n 1, 1) := by decide +kernel
theorem dX0_copyFrom_16 : decode cX0_copyFrom 16 = .ok (.getfield 15, 3) := by decide +kernel
theorem dX0_copyFrom_19 : decode cX0_copyFrom 19 = .ok (.iconst 0, 1) := by decide +kernel
theorem dX0_copyFrom_20 : decode cX0_copyFrom 20 = .ok (.aload_n 0, 1) := by decide +kernel
theorem dX0_copyFrom_21 : decode cX0_copyFrom 21 = .ok (.getfield 15, 3) := by decide +kernel
theorem dX0_copyFrom_24 : decode cX0_copyFrom 24 = .ok (.iconst 0, 1) := by decide +kernel
theorem dX0_copyFrom_25 : decode cX0_copyFrom 25 = .ok (.bipush 12, 2) := by decide +kernel
theorem dX0_copyFrom_27 : decode cX0_copyFrom 27 = .ok (.invokestatic 78, 3) := by decide +kernel
theorem dX0_copyFrom_30 : decode cX0_copyFrom 30 = .ok (.aload_n 1, 1) := by decide +kernel
theorem dX0_copyFrom_31 : decode cX0_copyFrom 31 = .ok (.getfield 18, 3) := by decide +kernel
theorem dX0_copyFrom_34 : decode cX0_copyFrom 34 = .ok (.iconst 0, 1) := by decide +kernel
theorem dX0_copyFrom_35 : decode cX0_copyFrom 35 = .ok (.aload_n 0, 1) := by decide +kernel
theorem dX0_copyFrom_36 : decode cX0_copyFrom 36 = .ok (.getfield 18, 3) := by decide +kernel
theorem dX0_copyFrom_39 : decode cX0_copyFrom 39 = .ok (.iconst 0, 1) := by decide +kernel
theorem dX0_copyFrom_40 : decode cX0_copyFrom 40 = .ok (.bipush 12, 2) := by decide +kernel
theorem dX0_copyFrom_42 : decode cX0_copyFrom 42 = .ok (.invokestatic 78, 3) := by decide +kernel
theorem dX0_copyFrom_45 : decode cX0_copyFrom 45 = .ok (.aload_n 1, 1) := by decide +kernel
theorem dX0_copyFrom_46 : decode cX0_copyFrom 46 = .ok (.getfield 21, 3) := by decide +kernel
theorem dX0_copyFrom_49 : decode cX0_copyFrom 49 = .ok (.iconst 0, 1) := by decide +kernel
theorem dX0_copyFrom_50 : decode cX0_copyFrom 50 = .ok (.aload_n 0, 1) := by decide +kernel
theorem dX0_copyFrom_51 : decode cX0_copyFrom 51 = .ok (.getfield 21, 3) := by decide +kernel
theorem dX0_copyFrom_54 : decode cX0_copyFrom 54 = .ok (.iconst 0, 1) := by decide +kernel
theorem dX0_copyFrom_55 : decode cX0_copyFrom 55 = .ok (.bipush 12, 2) := by decide +kernel
theorem dX0_copyFrom_57 : decode cX0_copyFrom 57 = .ok (.invokestatic 78, 3) := by decide +kernel
theorem dX0_copyFrom_60 : decode cX0_copyFrom 60 = .ok (.aload_n 0, 1) := by decide +kernel
theorem dX0_copyFrom_61 : decode cX0_copyFrom 61 = .ok (.aload_n 1, 1) := by decide +kernel
theorem dX0_copyFrom_62 : decode cX0_copyFrom 62 = .ok (.getfield 24, 3) := by decide +kernel
theorem dX0_copyFrom_65 : decode cX0_copyFrom 65 = .ok (.putfield 24, 3) := by decide +kernel
theorem dX0_copyFrom_68 : decode cX0_copyFrom 68 = .ok (.aload_n 0, 1) := by decide +kernel
theorem dX0_copyFrom_69 : decode cX0_copyFrom 69 = .ok (.aload_n 1, 1) := by decide +kernel
theorem dX0_copyFrom_70 : decode cX0_copyFrom 70 = .ok (.getfield 28, 3) := by decide +kernel
theorem dX0_copyFrom_73 : decode cX0_copyFrom 73 = .ok (.putfield 28, 3) := by decide +kernel
theorem dX0_copyFrom_76 : decode cX0_copyFrom 76 = .ok (.aload_n 0, 1) := by decide +kernel
theorem dX0_copyFrom_77 : decode cX0_copyFrom 77 = .ok (.aload_n 1, 1) := by decide +kernel
theorem dX0_copyFrom_78 : decode cX0_copyFrom 78 = .ok (.getfield 32, 3) := by decide +kernel
theorem dX0_copyFrom_81 : decode cX0_copyFrom 81 = .ok (.putfield 32, 3) := by decide +kernel
theorem dX0_copyFrom_84 : decode cX0_copyFrom 84 = .ok (.aload_n 0, 1) := by decide +kernel
theorem dX0_copyFrom_85 : decode cX0_copyFrom 85 = .ok (.aload_n 1, 1) := by decide +kernel
theorem dX0_copyFrom_86 : decode cX0_copyFrom 86 = .ok (.getfield 35, 3) := by decide +kernel
theorem dX0_copyFrom_89 : decode cX0_copyFrom 89 = .ok (.putfield 35, 3) := by decide +kernel
theorem dX0_copyFrom_92 : decode cX0_copyFrom 92 = .ok (.aload_n 0, 1) := by decide +kernel
theorem dX0_copyFrom_93 : decode cX0_copyFrom 93 = .ok (.aload_n 1, 1) := by decide +kernel
theorem dX0_copyFrom_94 : decode cX0_copyFrom 94 = .ok (.getfield 38, 3) := by decide +kernel
theorem dX0_copyFrom_97 : decode cX0_copyFrom 97 = .ok (.putfield 38, 3) := by decide +kernel
theorem dX0_copyFrom_100 : decode cX0_copyFrom 100 = .ok (.aload_n 0, 1) := by decide +kernel
theorem dX0_copyFrom_101 : decode cX0_copyFrom 101 = .ok (.aload_n 1, 1) := by decide +kernel
theorem dX0_copyFrom_102 : decode cX0_copyFrom 102 = .ok (.getfield 41, 3) := by decide +kernel
theorem dX0_copyFrom_105 : decode cX0_copyFrom 105 = .ok (.putfield 41, 3) := by decide +kernel
theorem dX0_copyFrom_108 : decode cX0_copyFrom 108 = .ok (.return_, 1) := by decide +kernel
theorem dX1_init_0 : decode cX1_init 0 = .ok (.aload_n 0, 1) := by decide +kernel
theorem dX1_init_1 : decode cX1_init 1 = .ok (.invokespecial 3, 3) := by decide +kernel
theorem dX1_init_4 : decode cX1_init 4 = .ok (.aload_n 0, 1) := by decide +kernel
theorem dX1_init_5 : decode cX1_init 5 = .ok (.new 9, 3) := by decide +kernel
theorem dX1_init_8 : decode cX1_init 8 = .ok (.dup, 1) := by decide +kernel
theorem dX1_init_9 : decode cX1_init 9 = .ok (.invokespecial 11, 3) := by decide +kernel
theorem dX1_init_12 : decode cX1_init 12 = .ok (.putfield 12, 3) := by decide +kernel
theorem dX1_init_15 : decode cX1_init 15 = .ok (.aload_n 0, 1) := by decide +kernel
theorem dX1_init_16 : decode cX1_init 16 = .ok (.aload_n 0, 1) := by decide +kernel
theorem dX1_init_17 : decode cX1_init 17 = .ok (.getfield 12, 3) := by decide +kernel
theorem dX1_init_20 : decode cX1_init 20 = .ok (.getfield 18, 3) := by decide +kernel
theorem dX1_init_23 : decode cX1_init 23 = .ok (.putfield 22, 3) := by decide +kernel
theorem dX1_init_26 : decode cX1_init 26 = .ok (.aload_n 0, 1) := by decide +kernel
theorem dX1_init_27 : decode cX1_init 27 = .ok (.iconst 0, 1) := by decide +kernel
theorem dX1_init_28 : decode cX1_init 28 = .ok (.putfield 23, 3) := by decide +kernel
theorem dX1_init_31 : decode cX1_init 31 = .ok (.aload_n 0, 1) := by decide +kernel
theorem dX1_init_32 : decode cX1_init 32 = .ok (.iconst 0, 1) := by decide +kernel
theorem dX1_init_33 : decode cX1_init 33 = .ok (.putfield 27, 3) := by decide +kernel
theorem dX1_init_36 : decode cX1_init 36 = .ok (.return_, 1) := by decide +kernel
theorem dX1_bestSet_0 : decode cX1_bestSet 0 = .ok (.aload_n 0, 1) := by decide +kernel
theorem dX1_bestSet_1 : decode cX1_bestSet 1 = .ok (.aload_n 0, 1) := by decide +kernel
theorem dX1_bestSet_2 : decode cX1_bestSet 2 = .ok (.getfield 22, 3) := by decide +kernel
theorem dX1_bestSet_5 : decode cX1_bestSet 5 = .ok (.invokevirtual 30, 3) := by decide +kernel
theorem dX1_bestSet_8 : decode cX1_bestSet 8 = .ok (.putfield 23, 3) := by decide +kernel
theorem dX1_bestSet_11 : decode cX1_bestSet 11 = .ok (.aload_n 0, 1) := by decide +kernel
theorem dX1_bestSet_12 : decode cX1_bestSet 12 = .ok (.iconst 0, 1) := by decide +kernel
theorem dX1_bestSet_13 : decode cX1_bestSet 13 = .ok (.putfield 27, 3) := by decide +kernel
theorem dX1_bestSet_16 : decode cX1_bestSet 16 = .ok (.aload_n 0, 1) := by decide +kernel
theorem dX1_bestSet_17 : decode cX1_bestSet 17 = .ok (.aload_n 0, 1) := by decide +kernel
theorem dX1_bestSet_18 : decode cX1_bestSet 18 = .ok (.getfield 22, 3) := by decide +kernel
theorem dX1_bestSet_21 : decode cX1_bestSet 21 = .ok (.getfield 36, 3) := by decide +kernel
theorem dX1_bestSet_24 : decode cX1_bestSet 24 = .ok (.iconst 1, 1) := by decide +kernel
theorem dX1_bestSet_25 : decode cX1_bestSet 25 = .ok (.isub, 1) := by decide +kernel
theorem dX1_bestSet_26 : decode cX1_bestSet 26 = .ok (.aload_n 0, 1) := by decide +kernel
theorem dX1_bestSet_27 : decode cX1_bestSet 27 = .ok (.getfield 23, 3) := by decide +kernel
theorem dX1_bestSet_30 : decode cX1_bestSet 30 = .ok (.iconst 0, 1) := by decide +kernel
theorem dX1_bestSet_31 : decode cX1_bestSet 31 = .ok (.aload_n 0, 1) := by decide +kernel
theorem dX1_bestSet_32 : decode cX1_bestSet 32 = .ok (.getfield 22, 3) := by decide +kernel
theorem dX1_bestSet_35 : decode cX1_bestSet 35 = .ok (.getfield 39, 3) := by decide +kernel
theorem dX1_bestSet_38 : decode cX1_bestSet 38 = .ok (.aload_n 0, 1) := by decide +kernel
theorem dX1_bestSet_39 : decode cX1_bestSet 39 = .ok (.getfield 22, 3) := by decide +kernel
theorem dX1_bestSet_42 : decode cX1_bestSet 42 = .ok (.getfield 43, 3) := by decide +kernel
theorem dX1_bestSet_45 : decode cX1_bestSet 45 = .ok (.invokestatic 46, 3) := by decide +kernel
theorem dX1_bestSet_48 : decode cX1_bestSet 48 = .ok (.invokestatic 50, 3) := by decide +kernel
theorem dX1_bestSet_51 : decode cX1_bestSet 51 = .ok (.aload_n 0, 1) := by decide +kernel
theorem dX1_bestSet_52 : decode cX1_bestSet 52 = .ok (.getfield 23, 3) := by decide +kernel
theorem dX1_bestSet_55 : decode cX1_bestSet 55 = .ok (.ireturn, 1) := by decide +kernel
theorem dX1_extend_0 : decode cX1_extend 0 = .ok (.iload_n 3, 1) := by decide +kernel
theorem dX1_extend_1 : decode cX1_extend 1 = .ok (.iload 4, 2) := by decide +kernel
theorem dX1_extend_3 : decode cX1_extend 3 = .ok (.iadd, 1) := by decide +kernel
theorem dX1_extend_4 : decode cX1_extend 4 = .ok (.aload_n 0, 1) := by decide +kernel
theorem dX1_extend_5 : decode cX1_extend 5 = .ok (.getfield 27, 3) := by decide +kernel
theorem dX1_extend_8 : decode cX1_extend 8 = .ok (.if_icmp .ge 4, 3) := by decide +kernel
theorem dX1_extend_11 : decode cX1_extend 11 = .ok (.return_, 1) := by decide +kernel
theorem dX1_extend_12 : decode cX1_extend 12 = .ok (.iload_n 1, 1) := by decide +kernel
theorem dX1_extend_13 : decode cX1_extend 13 = .ok (.ifCond .lt 9, 3) := by decide +kernel
theorem dX1_extend_16 : decode cX1_extend 16 = .ok (.iload_n 1, 1) := by decide +kernel
theorem dX1_extend_17 : decode cX1_extend 17 = .ok (.bipush 12, 2) := by decide +kernel
theorem dX1_extend_19 : decode cX1_extend 19 = .ok (.if_icmp .lt 14, 3) := by decide +kernel
theorem dX1_extend_22 : decode cX1_extend 22 = .ok (.aload_n 0, 1) := by decide +kernel
theorem dX1_extend_23 : decode cX1_extend 23 = .ok (.iload_n 2, 1) := by decide +kernel
theorem dX1_extend_24 : decode cX1_extend 24 = .ok (.putfield 23, 3) := by decide +kernel
theorem dX1_extend_27 : decode cX1_extend 27 = .ok (.aload_n 0, 1) := by decide +kernel
theorem dX1_extend_28 : decode cX1_extend 28 = .ok (.iload_n 3, 1) := by decide +kernel
theorem dX1_extend_29 : decode cX1_extend 29 = .ok (.putfield 27, 3) := by decide +kernel
theorem dX1_extend_32 : decode cX1_extend 32 = .ok (.return_, 1) := by decide +kernel
theorem dX1_extend_33 : decode cX1_extend 33 = .ok (.aload_n 0, 1) := by decide +kernel
theorem dX1_extend_34 : decode cX1_extend 34 = .ok (.getfield 22, 3) := by decide +kernel
theorem dX1_extend_37 : decode cX1_extend 37 = .ok (.getfield 43, 3) := by decide +kernel
theorem dX1_extend_40 : decode cX1_extend 40 = .ok (.iload_n 1, 1) := by decide +kernel
theorem dX1_extend_41 : decode cX1_extend 41 = .ok (.invokestatic 54, 3) := by decide +kernel
theorem dX1_extend_44 : decode cX1_extend 44 = .ok (.istore 5, 2) := by decide +kernel
theorem dX1_extend_46 : decode cX1_extend 46 = .ok (.iload 5, 2) := by decide +kernel
theorem dX1_extend_48 : decode cX1_extend 48 = .ok (.ifCond .eq 15, 3) := by decide +kernel
theorem dX1_extend_51 : decode cX1_extend 51 = .ok (.aload_n 0, 1) := by decide +kernel
theorem dX1_extend_52 : decode cX1_extend 52 = .ok (.getfield 22, 3) := by decide +kernel
theorem dX1_extend_55 : decode cX1_extend 55 = .ok (.getfield 39, 3) := by decide +kernel
theorem dX1_extend_58 : decode cX1_extend 58 = .ok (.iload_n 1, 1) := by decide +kernel
theorem dX1_extend_59 : decode cX1_extend 59 = .ok (.iaload, 1) := by decide +kernel
theorem dX1_extend_60 : decode cX1_extend 60 = .ok (.goto 4, 3) := by decide +kernel
theorem dX1_extend_63 : decode cX1_extend 63 = .ok (.iconst 0, 1) := by decide +kernel
theorem dX1_extend_64 : decode cX1_extend 64 = .ok (.istore 6, 2) := by decide +kernel
theorem dX1_extend_66 : decode cX1_extend 66 = .ok (.iload_n 2, 1) := by decide +kernel
theorem dX1_extend_67 : decode cX1_extend 67 = .ok (.iconst 1, 1) := by decide +kernel
theorem dX1_extend_68 : decode cX1_extend 68 = .ok (.iload_n 1, 1) := by decide +kernel
theorem dX1_extend_69 : decode cX1_extend 69 = .ok (.ishl, 1) := by decide +kernel
theorem dX1_extend_70 : decode cX1_extend 70 = .ok (.ior, 1) := by decide +kernel
theorem dX1_extend_71 : decode cX1_extend 71 = .ok (.istore 7, 2) := by decide +kernel
theorem dX1_extend_73 : decode cX1_extend 73 = .ok (.iload 6, 2) := by decide +kernel
theorem dX1_extend_75 : decode cX1_extend 75 = .ok (.ifCond .le 33, 3) := by decide +kernel
theorem dX1_extend_78 : decode cX1_extend 78 = .ok (.aload_n 0, 1) := by decide +kernel
theorem dX1_extend_79 : decode cX1_extend 79 = .ok (.getfield 12, 3) := by decide +kernel
theorem dX1_extend_82 : decode cX1_extend 82 = .ok (.iload 7, 2) := by decide +kernel
theorem dX1_extend_84 : decode cX1_extend 84 = .ok (.invokevirtual 58, 3) := by decide +kernel
theorem dX1_extend_87 : decode cX1_extend 87 = .ok (.ifCond .eq 21, 3) := by decide +kernel
theorem dX1_extend_90 : decode cX1_extend 90 = .ok (.aload_n 0, 1) := by decide +kernel
theorem dX1_extend_91 : decode cX1_extend 91 = .ok (.iload_n 1, 1) := by decide +kernel
theorem dX1_extend_92 : decode cX1_extend 92 = .ok (.iconst 1, 1) := by decide +kernel
theorem dX1_extend_93 : decode cX1_extend 93 = .ok (.isub, 1) := by decide +kernel
theorem dX1_extend_94 : decode cX1_extend 94 = .ok (.iload 7, 2) := by decide +kernel
theorem dX1_extend_96 : decode cX1_extend 96 = .ok (.iload_n 3, 1) := by decide +kernel
theorem dX1_extend_97 : decode cX1_extend 97 = .ok (.iload 6, 2) := by decide +kernel
theorem dX1_extend_99 : decode cX1_extend 99 = .ok (.iadd, 1) := by decide +kernel
theorem dX1_extend_100 : decode cX1_extend 100 = .ok (.iload 4, 2) := by decide +kernel
theorem dX1_extend_102 : decode cX1_extend 102 = .ok (.iload 6, 2) := by decide +kernel
theorem dX1_extend_104 : decode cX1_extend 104 = .ok (.isub, 1) := by decide +kernel
theorem dX1_extend_105 : decode cX1_extend 105 = .ok (.invokestatic 50, 3) := by decide +kernel
theorem dX1_extend_108 : decode cX1_extend 108 = .ok (.aload_n 0, 1) := by decide +kernel
theorem dX1_extend_109 : decode cX1_extend 109 = .ok (.iload_n 1, 1) := by decide +kernel
theorem dX1_extend_110 : decode cX1_extend 110 = .ok (.iconst 1, 1) := by decide +kernel
theorem dX1_extend_111 : decode cX1_extend 111 = .ok (.isub, 1) := by decide +kernel
theorem dX1_extend_112 : decode cX1_extend 112 = .ok (.iload_n 2, 1) := by decide +kernel
theorem dX1_extend_113 : decode cX1_extend 113 = .ok (.iload_n 3, 1) := by decide +kernel
theorem dX1_extend_114 : decode cX1_extend 114 = .ok (.iload 4, 2) := by decide +kernel
theorem dX1_extend_116 : decode cX1_extend 116 = .ok (.iload 6, 2) := by decide +kernel
theorem dX1_extend_118 : decode cX1_extend 118 = .ok (.isub, 1) := by decide +kernel
theorem dX1_extend_119 : decode cX1_extend 119 = .ok (.invokestatic 50, 3) := by decide +kernel
theorem dX1_extend_122 : decode cX1_extend 122 = .ok (.return_, 1) := by decide +kernel
theorem dX2_init_0 : decode cX2_init 0 = .ok (.aload_n 0, 1) := by decide +kernel
theorem dX2_init_1 : decode cX2_init 1 = .ok (.invokespecial 3, 3) := by decide +kernel
theorem dX2_init_4 : decode cX2_init 4 = .ok (.aload_n 0, 1) := by decide +kernel
theorem dX2_init_5 : decode cX2_init 5 = .ok (.new 9, 3) := by decide +kernel
theorem dX2_init_8 : decode cX2_init 8 = .ok (.dup, 1) := by decide +kernel
theorem dX2_init_9 : decode cX2_init 9 = .ok (.invokespecial 11, 3) := by decide +kernel
theorem dX2_init_12 : decode cX2_init 12 = .ok (.putfield 12, 3) := by decide +kernel
theorem dX2_init_15 : decode cX2_init 15 = .ok (.aload_n 0, 1) := by decide +kernel
theorem dX2_init_16 : decode cX2_init 16 = .ok (.bipush 12, 2) := by decide +kernel
theorem dX2_init_18 : decode cX2_init 18 = .ok (.newarray .int, 2) := by decide +kernel
theorem dX2_init_20 : decode cX2_init 20 = .ok (.putfield 18, 3) := by decide +kernel
theorem dX2_init_23 : decode cX2_init 23 = .ok (.aload_n 0, 1) := by decide +kernel
theorem dX2_init_24 : decode cX2_init 24 = .ok (.bipush 12, 2) := by decide +kernel
theorem dX2_init_26 : decode cX2_init 26 = .ok (.newarray .int, 2) := by decide +kernel
theorem dX2_init_28 : decode cX2_init 28 = .ok (.putfield 22, 3) := by decide +kernel
theorem dX2_init_31 : decode cX2_init 31 = .ok (.aload_n 0, 1) := by decide +kernel
theorem dX2_init_32 : decode cX2_init 32 = .ok (.iconst 0, 1) := by decide +kernel
theorem dX2_init_33 : decode cX2_init 33 = .ok (.putfield 25, 3) := by decide +kernel
theorem dX2_init_36 : decode cX2_init 36 = .ok (.aload_n 0, 1) := by decide +kernel
theorem dX2_init_37 : decode cX2_init 37 = .ok (.iconst 0, 1) := by decide +kernel
theorem dX2_init_38 : decode cX2_init 38 = .ok (.putfield 29, 3) := by decide +kernel
theorem dX2_init_41 : decode cX2_init 41 = .ok (.aload_n 0, 1) := by decide +kernel
theorem dX2_init_42 : decode cX2_init 42 = .ok (.iconst 0, 1) := by decide +kernel
theorem dX2_init_43 : decode cX2_init 43 = .ok (.putfield 32, 3) := by decide +kernel
theorem dX2_init_46 : decode cX2_init 46 = .ok (.aload_n 0, 1) := by decide +kernel
theorem dX2_init_47 : decode cX2_init 47 = .ok (.iconst (-1), 1) := by decide +kernel
theorem dX2_init_48 : decode cX2_init 48 = .ok (.putfield 35, 3) := by decide +kernel
theorem dX2_init_51 : decode cX2_init 51 = .ok (.return_, 1) := by decide +kernel
theorem dX2_read_0 : decode cX2_read 0 = .ok (.aload_n 1, 1) := by decide +kernel
theorem dX2_read_1 : decode cX2_read 1 = .ok (.getfield 38, 3) := by decide +kernel
theorem dX2_read_4 : decode cX2_read 4 = .ok (.iconst 0, 1) := by decide +kernel
theorem dX2_read_5 : decode cX2_read 5 = .ok (.aload_n 0, 1) := by decide +kernel
theorem dX2_read_6 : decode cX2_read 6 = .ok (.getfield 18, 3) := by decide +kernel
theorem dX2_read_9 : decode cX2_read 9 = .ok (.iconst 0, 1) := by decide +kernel
theorem dX2_read_10 : decode cX2_read 10 = .ok (.bipush 12, 2) := by decide +kernel
theorem dX2_read_12 : decode cX2_read 12 = .ok (.invokestatic 41, 3) := by decide +kernel
theorem dX2_read_15 : decode cX2_read 15 = .ok (.aload_n 1, 1) := by decide +kernel
theorem dX2_read_16 : decode cX2_read 16 = .ok (.getfield 47, 3) := by decide +kernel
theorem dX2_read_19 : decode cX2_read 19 = .ok (.iconst 0, 1) := by decide +kernel
theorem dX2_read_20 : decode cX2_read 20 = .ok (.aload_n 0, 1) := by decide +kernel
theorem dX2_read_21 : decode cX2_read 21 = .ok (.getfield 22, 3) := by decide +kernel
theorem dX2_read_24 : decode cX2_read 24 = .ok (.iconst 0, 1) := by decide +kernel
theorem dX2_read_25 : decode cX2_read 25 = .ok (.bipush 12, 2) := by decide +kernel
theorem dX2_read_27 : decode cX2_read 27 = .ok (.invokestatic 41, 3) := by decide +kernel
theorem dX2_read_30 : decode cX2_read 30 = .ok (.aload_n 0, 1) := by decide +kernel
theorem dX2_read_31 : decode cX2_read 31 = .ok (.aload_n 1, 1) := by decide +kernel
theorem dX2_read_32 : decode cX2_read 32 = .ok (.getfield 48, 3) := by decide +kernel
theorem dX2_read_35 : decode cX2_read 35 = .ok (.putfield 25, 3) := by decide +kernel
theorem dX2_read_38 : decode cX2_read 38 = .ok (.aload_n 0, 1) := by decide +kernel
theorem dX2_read_39 : decode cX2_read 39 = .ok (.iconst 0, 1) := by decide +kernel
theorem dX2_read_40 : decode cX2_read 40 = .ok (.putfield 29, 3) := by decide +kernel
theorem dX2_read_43 : decode cX2_read 43 = .ok (.aload_n 0, 1) := by decide +kernel
theorem dX2_read_44 : decode cX2_read 44 = .ok (.iconst 0, 1) := by decide +kernel
theorem dX2_read_45 : decode cX2_read 45 = .ok (.putfield 32, 3) := by decide +kernel
theorem dX2_read_48 : decode cX2_read 48 = .ok (.aload_n 0, 1) := by decide +kernel
theorem dX2_read_49 : decode cX2_read 49 = .ok (.iconst (-1), 1) := by decide +kernel
theorem dX2_read_50 : decode cX2_read 50 = .ok (.putfield 35, 3) := by decide +kernel
theorem dX2_read_53 : decode cX2_read 53 = .ok (.iconst 1, 1) := by decide +kernel
theorem dX2_read_54 : decode cX2_read 54 = .ok (.istore_n 2, 1) := by decide +kernel
theorem dX2_read_55 : decode cX2_read 55 = .ok (.iconst 0, 1) := by decide +kernel
theorem dX2_read_56 : decode cX2_read 56 = .ok (.istore_n 3, 1) := by decide +kernel
theorem dX2_read_57 : decode cX2_read 57 = .ok (.iload_n 3, 1) := by decide +kernel
theorem dX2_read_58 : decode cX2_read 58 = .ok (.bipush 40, 2) := by decide +kernel
theorem dX2_read_60 : decode cX2_read 60 = .ok (.if_icmp .ge 33, 3) := by decide +kernel
theorem dX2_read_63 : decode cX2_read 63 = .ok (.iload_n 2, 1) := by decide +kernel
theorem dX2_read_64 : decode cX2_read 64 = .ok (.ifCond .eq 29, 3) := by decide +kernel
theorem dX2_read_67 : decode cX2_read 67 = .ok (.aload_n 0, 1) := by decide +kernel
theorem dX2_read_68 : decode cX2_read 68 = .ok (.invokevirtual 49, 3) := by decide +kernel
theorem dX2_read_71 : decode cX2_read 71 = .ok (.ifCond .eq 14, 3) := by decide +kernel
theorem dX2_read_74 : decode cX2_read 74 = .ok (.aload_n 0, 1) := by decide +kernel
theorem dX2_read_75 : decode cX2_read 75 = .ok (.invokevirtual 53, 3) := by decide +kernel
theorem dX2_read_78 : decode cX2_read 78 = .ok (.ifCond .eq 7, 3) := by decide +kernel
theorem dX2_read_81 : decode cX2_read 81 = .ok (.iconst 1, 1) := by decide +kernel
theorem dX2_read_82 : decode cX2_read 82 = .ok (.goto 4, 3) := by decide +kernel
theorem dX2_read_85 : decode cX2_read 85 = .ok (.iconst 0, 1) := by decide +kernel
theorem dX2_read_86 : decode cX2_read 86 = .ok (.istore_n 2, 1) := by decide +kernel
theorem dX2_read_87 : decode cX2_read 87 = .ok (.iinc 3 1, 3) := by decide +kernel
theorem dX2_read_90 : decode cX2_read 90 = .ok (.goto (-33), 3) := by decide +kernel
theorem dX2_read_93 : decode cX2_read 93 = .ok (.aload_n 0, 1) := by decide +kernel
theorem dX2_read_94 : decode cX2_read 94 = .ok (.getfield 35, 3) := by decide +kernel
theorem dX2_read_97 : decode cX2_read 97 = .ok (.ireturn, 1) := by decide +kernel
theorem dX2_applyTo_0 : decode cX2_applyTo 0 = .ok (.aload_n 0, 1) := by decide +kernel
theorem dX2_applyTo_1 : decode cX2_applyTo 1 = .ok (.getfield 18, 3) := by decide +kernel
theorem dX2_applyTo_4 : decode cX2_applyTo 4 = .ok (.iconst 0, 1) := by decide +kernel
theorem dX2_applyTo_5 : decode cX2_applyTo 5 = .ok (.aload_n 1, 1) := by decide +kernel
theorem dX2_applyTo_6 : decode cX2_applyTo 6 = .ok (.getfield 38, 3) := by decide +kernel
theorem dX2_applyTo_9 : decode cX2_applyTo 9 = .ok (.iconst 0, 1) := by decide +kernel
theorem dX2_applyTo_10 : decode cX2_applyTo 10 = .ok (.bipush 12, 2) := by decide +kernel
theorem dX2_applyTo_12 : decode cX2_applyTo 12 = .ok (.invokestatic 41, 3) := by decide +kernel
theorem dX2_applyTo_15 : decode cX2_applyTo 15 = .ok (.aload_n 0, 1) := by decide +kernel
theorem dX2_applyTo_16 : decode cX2_applyTo 16 = .ok (.getfield 22, 3) := by decide +kernel
theorem dX2_applyTo_19 : decode cX2_applyTo 19 = .ok (.iconst 0, 1) := by decide +kernel
theorem dX2_applyTo_20 : decode cX2_applyTo 20 = .ok (.aload_n 1, 1) := by decide +kernel
theorem dX2_applyTo_21 : decode cX2_applyTo 21 = .ok (.getfield 47, 3) := by decide +kernel
theorem dX2_applyTo_24 : decode cX2_applyTo 24 = .ok (.iconst 0, 1) := by decide +kernel
theorem dX2_applyTo_25 : decode cX2_applyTo 25 = .ok (.bipush 12, 2) := by decide +kernel
theorem dX2_applyTo_27 : decode cX2_applyTo 27 = .ok (.invokestatic 41, 3) := by decide +kernel
theorem dX2_applyTo_30 : decode cX2_applyTo 30 = .ok (.return_, 1) := by decide +kernel
theorem dX2_readPair_0 : decode cX2_readPair 0 = .ok (.aload_n 0, 1) := by decide +kernel
theorem dX2_readPair_1 : decode cX2_readPair 1 = .ok (.iconst (-1), 1) := by decide +kernel
theorem dX2_readPair_2 : decode cX2_readPair 2 = .ok (.invokevirtual 56, 3) := by decide +kernel
theorem dX2_readPair_5 : decode cX2_readPair 5 = .ok (.istore_n 1, 1) := by decide +kernel
theorem dX2_readPair_6 : decode cX2_readPair 6 = .ok (.iload_n 1, 1) := by decide +kernel
theorem dX2_readPair_7 : decode cX2_readPair 7 = .ok (.ifCond .ge 5, 3) := by decide +kernel
theorem dX2_readPair_10 : decode cX2_readPair 10 = .ok (.iconst 0, 1) := by decide +kernel
theorem dX2_readPair_11 : decode cX2_readPair 11 = .ok (.ireturn, 1) := by decide +kernel
theorem dX2_readPair_12 : decode cX2_readPair 12 = .ok (.aload_n 0, 1) := by decide +kernel
theorem dX2_readPair_13 : decode cX2_readPair 13 = .ok (.bipush 45, 2) := by decide +kernel
theorem dX2_readPair_15 : decode cX2_readPair 15 = .ok (.invokevirtual 60, 3) := by decide +kernel
theorem dX2_readPair_18 : decode cX2_readPair 18 = .ok (.ifCond .ne 13, 3) := by decide +kernel
theorem dX2_readPair_21 : decode cX2_readPair 21 = .ok (.aload_n 0, 1) := by decide +kernel
theorem dX2_readPair_22 : decode cX2_readPair 22 = .ok (.aload_n 0, 1) := by decide +kernel
theorem dX2_readPair_23 : decode cX2_readPair 23 = .ok (.getfield 29, 3) := by decide +kernel
theorem dX2_readPair_26 : decode cX2_readPair 26 = .ok (.putfield 35, 3) := by decide +kernel
theorem dX2_readPair_29 : decode cX2_readPair 29 = .ok (.iconst 0, 1) := by decide +kernel
theorem dX2_readPair_30 : decode cX2_readPair 30 = .ok (.ireturn, 1) := by decide +kernel
theorem dX2_readPair_31 : decode cX2_readPair 31 = .ok (.aload_n 0, 1) := by decide +kernel
theorem dX2_readPair_32 : decode cX2_readPair 32 = .ok (.iload_n 1, 1) := by decide +kernel
theorem dX2_readPair_33 : decode cX2_readPair 33 = .ok (.invokevirtual 56, 3) := by decide +kernel
theorem dX2_readPair_36 : decode cX2_readPair 36 = .ok (.istore_n 2, 1) := by decide +kernel
theorem dX2_readPair_37 : decode cX2_readPair 37 = .ok (.iload_n 2, 1) := by decide +kernel
theorem dX2_readPair_38 : decode cX2_readPair 38 = .ok (.ifCond .ge 5, 3) := by decide +kernel
theorem dX2_readPair_41 : decode cX2_readPair 41 = .ok (.iconst 0, 1) := by decide +kernel
theorem dX2_readPair_42 : decode cX2_readPair 42 = .ok (.ireturn, 1) := by decide +kernel
theorem dX2_readPair_43 : decode cX2_readPair 43 = .ok (.aload_n 0, 1) := by decide +kernel
theorem dX2_readPair_44 : decode cX2_readPair 44 = .ok (.getfield 18, 3) := by decide +kernel
theorem dX2_readPair_47 : decode cX2_readPair 47 = .ok (.iload_n 1, 1) := by decide +kernel
theorem dX2_readPair_48 : decode cX2_readPair 48 = .ok (.iload_n 2, 1) := by decide +kernel
theorem dX2_readPair_49 : decode cX2_readPair 49 = .ok (.aload_n 0, 1) := by decide +kernel
theorem dX2_readPair_50 : decode cX2_readPair 50 = .ok (.bipush 99, 2) := by decide +kernel
theorem dX2_readPair_52 : decode cX2_readPair 52 = .ok (.invokevirtual 60, 3) := by decide +kernel
theorem dX2_readPair_55 : decode cX2_readPair 55 = .ok (.invokestatic 64, 3) := by decide +kernel
theorem dX2_readPair_58 : decode cX2_readPair 58 = .ok (.aload_n 0, 1) := by decide +kernel
theorem dX2_readPair_59 : decode cX2_readPair 59 = .ok (.getfield 22, 3) := by decide +kernel
theorem dX2_readPair_62 : decode cX2_readPair 62 = .ok (.iload_n 1, 1) := by decide +kernel
theorem dX2_readPair_63 : decode cX2_readPair 63 = .ok (.iload_n 2, 1) := by decide +kernel
theorem dX2_readPair_64 : decode cX2_readPair 64 = .ok (.aload_n 0, 1) := by decide +kernel
theorem dX2_readPair_65 : decode cX2_readPair 65 = .ok (.bipush 97, 2) := by decide +kernel
theorem dX2_readPair_67 : decode cX2_readPair 67 = .ok (.invokevirtual 60, 3) := by decide +kernel
theorem dX2_readPair_70 : decode cX2_readPair 70 = .ok (.invokestatic 64, 3) := by decide +kernel
theorem dX2_readPair_73 : decode cX2_readPair 73 = .ok (.aload_n 0, 1) := by decide +kernel
theorem dX2_readPair_74 : decode cX2_readPair 74 = .ok (.dup, 1) := by decide +kernel
theorem dX2_readPair_75 : decode cX2_readPair 75 = .ok (.getfield 32, 3) := by decide +kernel
theorem dX2_readPair_78 : decode cX2_readPair 78 = .ok (.iconst 1, 1) := by decide +kernel
theorem dX2_readPair_79 : decode cX2_readPair 79 = .ok (.iadd, 1) := by decide +kernel
theorem dX2_readPair_80 : decode cX2_readPair 80 = .ok (.putfield 32, 3) := by decide +kernel
theorem dX2_readPair_83 : decode cX2_readPair 83 = .ok (.iconst 1, 1) := by decide +kernel
theorem dX2_readPair_84 : decode cX2_readPair 84 = .ok (.ireturn, 1) := by decide +kernel
theorem dX2_readSeparator_0 : decode cX2_readSeparator 0 = .ok (.aload_n 0, 1) := by decide +kernel
theorem dX2_readSeparator_1 : decode cX2_readSeparator 1 = .ok (.getfield 29, 3) := by decide +kernel
theorem dX2_readSeparator_4 : decode cX2_readSeparator 4 = .ok (.aload_n 0, 1) := by decide +kernel
theorem dX2_readSeparator_5 : decode cX2_readSeparator 5 = .ok (.getfield 12, 3) := by decide +kernel
theorem dX2_readSeparator_8 : decode cX2_readSeparator 8 = .ok (.getfield 68, 3) := by decide +kernel
theorem dX2_readSeparator_11 : decode cX2_readSeparator 11 = .ok (.if_icmp .lt 5, 3) := by decide +kernel
theorem dX2_readSeparator_14 : decode cX2_readSeparator 14 = .ok (.iconst 0, 1) := by decide +kernel
theorem dX2_readSeparator_15 : decode cX2_readSeparator 15 = .ok (.ireturn, 1) := by decide +kernel
theorem dX2_readSeparator_16 : decode cX2_readSeparator 16 = .ok (.aload_n 0, 1) := by decide +kernel
theorem dX2_readSeparator_17 : decode cX2_readSeparator 17 = .ok (.bipush 59, 2) := by decide +kernel
theorem dX2_readSeparator_19 : decode cX2_readSeparator 19 = .ok (.invokevirtual 60, 3) := by decide +kernel
theorem dX2_readSeparator_22 : decode cX2_readSeparator 22 = .ok (.ifCond .ne 13, 3) := by decide +kernel
theorem dX2_readSeparator_25 : decode cX2_readSeparator 25 = .ok (.aload_n 0, 1) := by decide +kernel
theorem dX2_readSeparator_26 : decode cX2_readSeparator 26 = .ok (.aload_n 0, 1) := by decide +kernel
theorem dX2_readSeparator_27 : decode cX2_readSeparator 27 = .ok (.getfield 29, 3) := by decide +kernel
theorem dX2_readSeparator_30 : decode cX2_readSeparator 30 = .ok (.putfield 35, 3) := by decide +kernel
theorem dX2_readSeparator_33 : decode cX2_readSeparator 33 = .ok (.iconst 0, 1) := by decide +kernel
theorem dX2_readSeparator_34 : decode cX2_readSeparator 34 = .ok (.ireturn, 1) := by decide +kernel
theorem dX2_readSeparator_35 : decode cX2_readSeparator 35 = .ok (.iconst 1, 1) := by decide +kernel
theorem dX2_readSeparator_36 : decode cX2_readSeparator 36 = .ok (.ireturn, 1) := by decide +kernel
theorem dX2_readStation_0 : decode cX2_readStation 0 = .ok (.aload_n 0, 1) := by decide +kernel
theorem dX2_readStation_1 : decode cX2_readStation 1 = .ok (.getfield 29, 3) := by decide +kernel
theorem dX2_readStation_4 : decode cX2_readStation 4 = .ok (.istore_n 2, 1) := by decide +kernel
theorem dX2_readStation_5 : decode cX2_readStation 5 = .ok (.aload_n 0, 1) := by decide +kernel
theorem dX2_readStation_6 : decode cX2_readStation 6 = .ok (.aload_n 0, 1) := by decide +kernel
theorem dX2_readStation_7 : decode cX2_readStation 7 = .ok (.getfield 29, 3) := by decide +kernel
theorem dX2_readStation_10 : decode cX2_readStation 10 = .ok (.invokevirtual 71, 3) := by decide +kernel
theorem dX2_readStation_13 : decode cX2_readStation 13 = .ok (.istore_n 3, 1) := by decide +kernel
theorem dX2_readStation_14 : decode cX2_readStation 14 = .ok (.iload_n 3, 1) := by decide +kernel
theorem dX2_readStation_15 : decode cX2_readStation 15 = .ok (.ifCond .ge 10, 3) := by decide +kernel
theorem dX2_readStation_18 : decode cX2_readStation 18 = .ok (.aload_n 0, 1) := by decide +kernel
theorem dX2_readStation_19 : decode cX2_readStation 19 = .ok (.iload_n 2, 1) := by decide +kernel
theorem dX2_readStation_20 : decode cX2_readStation 20 = .ok (.putfield 35, 3) := by decide +kernel
theorem dX2_readStation_23 : decode cX2_readStation 23 = .ok (.iconst (-1), 1) := by decide +kernel
theorem dX2_readStation_24 : decode cX2_readStation 24 = .ok (.ireturn, 1) := by decide +kernel
theorem dX2_readStation_25 : decode cX2_readStation 25 = .ok (.aload_n 0, 1) := by decide +kernel
theorem dX2_readStation_26 : decode cX2_readStation 26 = .ok (.dup, 1) := by decide +kernel
theorem dX2_readStation_27 : decode cX2_readStation 27 = .ok (.getfield 29, 3) := by decide +kernel
theorem dX2_readStation_30 : decode cX2_readStation 30 = .ok (.iconst 1, 1) := by decide +kernel
theorem dX2_readStation_31 : decode cX2_readStation 31 = .ok (.iadd, 1) := by decide +kernel
theorem dX2_readStation_32 : decode cX2_readStation 32 = .ok (.putfield 29, 3) := by decide +kernel
theorem dX2_readStation_35 : decode cX2_readStation 35 = .ok (.aload_n 0, 1) := by decide +kernel
theorem dX2_readStation_36 : decode cX2_readStation 36 = .ok (.aload_n 0, 1) := by decide +kernel
theorem dX2_readStation_37 : decode cX2_readStation 37 = .ok (.getfield 29, 3) := by decide +kernel
theorem dX2_readStation_40 : decode cX2_readStation 40 = .ok (.invokevirtual 71, 3) := by decide +kernel
theorem dX2_readStation_43 : decode cX2_readStation 43 = .ok (.istore 4, 2) := by decide +kernel
theorem dX2_readStation_45 : decode cX2_readStation 45 = .ok (.iload_n 3, 1) := by decide +kernel
theorem dX2_readStation_46 : decode cX2_readStation 46 = .ok (.iconst 1, 1) := by decide +kernel
theorem dX2_readStation_47 : decode cX2_readStation 47 = .ok (.if_icmp .ne 30, 3) := by decide +kernel
theorem dX2_readStation_50 : decode cX2_readStation 50 = .ok (.iload 4, 2) := by decide +kernel
theorem dX2_readStation_52 : decode cX2_readStation 52 = .ok (.ifCond .eq 9, 3) := by decide +kernel
theorem dX2_readStation_55 : decode cX2_readStation 55 = .ok (.iload 4, 2) := by decide +kernel
theorem dX2_readStation_57 : decode cX2_readStation 57 = .ok (.iconst 1, 1) := by decide +kernel
theorem dX2_readStation_58 : decode cX2_readStation 58 = .ok (.if_icmp .ne 19, 3) := by decide +kernel
theorem dX2_readStation_61 : decode cX2_readStation 61 = .ok (.bipush 10, 2) := by decide +kernel
theorem dX2_readStation_63 : decode cX2_readStation 63 = .ok (.iload 4, 2) := by decide +kernel
theorem dX2_readStation_65 : decode cX2_readStation 65 = .ok (.iadd, 1) := by decide +kernel
theorem dX2_readStation_66 : decode cX2_readStation 66 = .ok (.istore_n 3, 1) := by decide +kernel
theorem dX2_readStation_67 : decode cX2_readStation 67 = .ok (.aload_n 0, 1) := by decide +kernel
theorem dX2_readStation_68 : decode cX2_readStation 68 = .ok (.dup, 1) := by decide +kernel
theorem dX2_readStation_69 : decode cX2_readStation 69 = .ok (.getfield 29, 3) := by decide +kernel
theorem dX2_readStation_72 : decode cX2_readStation 72 = .ok (.iconst 1, 1) := by decide +kernel
theorem dX2_readStation_73 : decode cX2_readStation 73 = .ok (.iadd, 1) := by decide +kernel
theorem dX2_readStation_74 : decode cX2_readStation 74 = .ok (.putfield 29, 3) := by decide +kernel
theorem dX2_readStation_77 : decode cX2_readStation 77 = .ok (.iload_n 3, 1) := by decide +kernel
theorem dX2_readStation_78 : decode cX2_readStation 78 = .ok (.aload_n 0, 1) := by decide +kernel
theorem dX2_readStation_79 : decode cX2_readStation 79 = .ok (.getfield 25, 3) := by decide +kernel
theorem dX2_readStation_82 : decode cX2_readStation 82 = .ok (.if_icmp .ge 8, 3) := by decide +kernel
theorem dX2_readStation_85 : decode cX2_readStation 85 = .ok (.iload_n 3, 1) := by decide +kernel
theorem dX2_readStation_86 : decode cX2_readStation 86 = .ok (.iload_n 1, 1) := by decide +kernel
theorem dX2_readStation_87 : decode cX2_readStation 87 = .ok (.if_icmp .ne 10, 3) := by decide +kernel
theorem dX2_readStation_90 : decode cX2_readStation 90 = .ok (.aload_n 0, 1) := by decide +kernel
theorem dX2_readStation_91 : decode cX2_readStation 91 = .ok (.iload_n 2, 1) := by decide +kernel
theorem dX2_readStation_92 : decode cX2_readStation 92 = .ok (.putfield 35, 3) := by decide +kernel
theorem dX2_readStation_95 : decode cX2_readStation 95 = .ok (.iconst (-1), 1) := by decide +kernel
theorem dX2_readStation_96 : decode cX2_readStation 96 = .ok (.ireturn, 1) := by decide +kernel
theorem dX2_readStation_97 : decode cX2_readStation 97 = .ok (.iload_n 3, 1) := by decide +kernel
theorem dX2_readStation_98 : decode cX2_readStation 98 = .ok (.ireturn, 1) := by decide +kernel
theorem dX2_digitAt_0 : decode cX2_digitAt 0 = .ok (.aload_n 0, 1) := by decide +kernel
theorem dX2_digitAt_1 : decode cX2_digitAt 1 = .ok (.getfield 12, 3) := by decide +kernel
theorem dX2_digitAt_4 : decode cX2_digitAt 4 = .ok (.iload_n 1, 1) := by decide +kernel
theorem dX2_digitAt_5 : decode cX2_digitAt 5 = .ok (.invokevirtual 74, 3) := by decide +kernel
theorem dX2_digitAt_8 : decode cX2_digitAt 8 = .ok (.istore_n 2, 1) := by decide +kernel
theorem dX2_digitAt_9 : decode cX2_digitAt 9 = .ok (.iload_n 2, 1) := by decide +kernel
theorem dX2_digitAt_10 : decode cX2_digitAt 10 = .ok (.bipush 48, 2) := by decide +kernel
theorem dX2_digitAt_12 : decode cX2_digitAt 12 = .ok (.if_icmp .lt 16, 3) := by decide +kernel
theorem dX2_digitAt_15 : decode cX2_digitAt 15 = .ok (.iload_n 2, 1) := by decide +kernel
theorem dX2_digitAt_16 : decode cX2_digitAt 16 = .ok (.bipush 57, 2) := by decide +kernel
theorem dX2_digitAt_18 : decode cX2_digitAt 18 = .ok (.if_icmp .gt 10, 3) := by decide +kernel
theorem dX2_digitAt_21 : decode cX2_digitAt 21 = .ok (.iload_n 2, 1) := by decide +kernel
theorem dX2_digitAt_22 : decode cX2_digitAt 22 = .ok (.bipush 48, 2) := by decide +kernel
theorem dX2_digitAt_24 : decode cX2_digitAt 24 = .ok (.isub, 1) := by decide +kernel
theorem dX2_digitAt_25 : decode cX2_digitAt 25 = .ok (.goto 4, 3) := by decide +kernel
theorem dX2_digitAt_28 : decode cX2_digitAt 28 = .ok (.iconst (-1), 1) := by decide +kernel
theorem dX2_digitAt_29 : decode cX2_digitAt 29 = .ok (.ireturn, 1) := by decide +kernel
theorem dX2_skip_0 : decode cX2_skip 0 = .ok (.aload_n 0, 1) := by decide +kernel
theorem dX2_skip_1 : decode cX2_skip 1 = .ok (.getfield 12, 3) := by decide +kernel
theorem dX2_skip_4 : decode cX2_skip 4 = .ok (.aload_n 0, 1) := by decide +kernel
theorem dX2_skip_5 : decode cX2_skip 5 = .ok (.getfield 29, 3) := by decide +kernel
theorem dX2_skip_8 : decode cX2_skip 8 = .ok (.invokevirtual 74, 3) := by decide +kernel
theorem dX2_skip_11 : decode cX2_skip 11 = .ok (.iload_n 1, 1) := by decide +kernel
theorem dX2_skip_12 : decode cX2_skip 12 = .ok (.if_icmp .eq 5, 3) := by decide +kernel
theorem dX2_skip_15 : decode cX2_skip 15 = .ok (.iconst 0, 1) := by decide +kernel
theorem dX2_skip_16 : decode cX2_skip 16 = .ok (.ireturn, 1) := by decide +kernel
theorem dX2_skip_17 : decode cX2_skip 17 = .ok (.aload_n 0, 1) := by decide +kernel
theorem dX2_skip_18 : decode cX2_skip 18 = .ok (.dup, 1) := by decide +kernel
theorem dX2_skip_19 : decode cX2_skip 19 = .ok (.getfield 29, 3) := by decide +kernel
theorem dX2_skip_22 : decode cX2_skip 22 = .ok (.iconst 1, 1) := by decide +kernel
theorem dX2_skip_23 : decode cX2_skip 23 = .ok (.iadd, 1) := by decide +kernel
theorem dX2_skip_24 : decode cX2_skip 24 = .ok (.putfield 29, 3) := by decide +kernel
theorem dX2_skip_27 : decode cX2_skip 27 = .ok (.iconst 1, 1) := by decide +kernel
theorem dX2_skip_28 : decode cX2_skip 28 = .ok (.ireturn, 1) := by decide +kernel
theorem dX2_link_0 : decode cX2_link 0 = .ok (.iload_n 3, 1) := by decide +kernel
theorem dX2_link_1 : decode cX2_link 1 = .ok (.ifCond .eq 24, 3) := by decide +kernel
theorem dX2_link_4 : decode cX2_link 4 = .ok (.aload_n 0, 1) := by decide +kernel
theorem dX2_link_5 : decode cX2_link 5 = .ok (.iload_n 1, 1) := by decide +kernel
theorem dX2_link_6 : decode cX2_link 6 = .ok (.dup2, 1) := by decide +kernel
theorem dX2_link_7 : decode cX2_link 7 = .ok (.iaload, 1) := by decide +kernel
theorem dX2_link_8 : decode cX2_link 8 = .ok (.iconst 1, 1) := by decide +kernel
theorem dX2_link_9 : decode cX2_link 9 = .ok (.iload_n 2, 1) := by decide +kernel
theorem dX2_link_10 : decode cX2_link 10 = .ok (.ishl, 1) := by decide +kernel
theorem dX2_link_11 : decode cX2_link 11 = .ok (.ior, 1) := by decide +kernel
theorem dX2_link_12 : decode cX2_link 12 = .ok (.iastore, 1) := by decide +kernel
theorem dX2_link_13 : decode cX2_link 13 = .ok (.aload_n 0, 1) := by decide +kernel
theorem dX2_link_14 : decode cX2_link 14 = .ok (.iload_n 2, 1) := by decide +kernel
theorem dX2_link_15 : decode cX2_link 15 = .ok (.dup2, 1) := by decide +kernel
theorem dX2_link_16 : decode cX2_link 16 = .ok (.iaload, 1) := by decide +kernel
theorem dX2_link_17 : decode cX2_link 17 = .ok (.iconst 1, 1) := by decide +kernel
theorem dX2_link_18 : decode cX2_link 18 = .ok (.iload_n 1, 1) := by decide +kernel
theorem dX2_link_19 : decode cX2_link 19 = .ok (.ishl, 1) := by decide +kernel
theorem dX2_link_20 : decode cX2_link 20 = .ok (.ior, 1) := by decide +kernel
theorem dX2_link_21 : decode cX2_link 21 = .ok (.iastore, 1) := by decide +kernel
theorem dX2_link_22 : decode cX2_link 22 = .ok (.goto 25, 3) := by decide +kernel
theorem dX2_link_25 : decode cX2_link 25 = .ok (.aload_n 0, 1) := by decide +kernel
theorem dX2_link_26 : decode cX2_link 26 = .ok (.iload_n 1, 1) := by decide +kernel
theorem dX2_link_27 : decode cX2_link 27 = .ok (.dup2, 1) := by decide +kernel
theorem dX2_link_28 : decode cX2_link 28 = .ok (.iaload, 1) := by decide +kernel
theorem dX2_link_29 : decode cX2_link 29 = .ok (.iconst 1, 1) := by decide +kernel
theorem dX2_link_30 : decode cX2_link 30 = .ok (.iload_n 2, 1) := by decide +kernel
theorem dX2_link_31 : decode cX2_link 31 = .ok (.ishl, 1) := by decide +kernel
theorem dX2_link_32 : decode cX2_link 32 = .ok (.iconst (-1), 1) := by decide +kernel
theorem dX2_link_33 : decode cX2_link 33 = .ok (.ixor, 1) := by decide +kernel
theorem dX2_link_34 : decode cX2_link 34 = .ok (.iand, 1) := by decide +kernel
theorem dX2_link_35 : decode cX2_link 35 = .ok (.iastore, 1) := by decide +kernel
theorem dX2_link_36 : decode cX2_link 36 = .ok (.aload_n 0, 1) := by decide +kernel
theorem dX2_link_37 : decode cX2_link 37 = .ok (.iload_n 2, 1) := by decide +kernel
theorem dX2_link_38 : decode cX2_link 38 = .ok (.dup2, 1) := by decide +kernel
theorem dX2_link_39 : decode cX2_link 39 = .ok (.iaload, 1) := by decide +kernel
theorem dX2_link_40 : decode cX2_link 40 = .ok (.iconst 1, 1) := by decide +kernel
theorem dX2_link_41 : decode cX2_link 41 = .ok (.iload_n 1, 1) := by decide +kernel
theorem dX2_link_42 : decode cX2_link 42 = .ok (.ishl, 1) := by decide +kernel
theorem dX2_link_43 : decode cX2_link 43 = .ok (.iconst (-1), 1) := by decide +kernel
theorem dX2_link_44 : decode cX2_link 44 = .ok (.ixor, 1) := by decide +kernel
theorem dX2_link_45 : decode cX2_link 45 = .ok (.iand, 1) := by decide +kernel
theorem dX2_link_46 : decode cX2_link 46 = .ok (.iastore, 1) := by decide +kernel
theorem dX2_link_47 : decode cX2_link 47 = .ok (.return_, 1) := by decide +kernel
theorem dX3_init_0 : decode cX3_init 0 = .ok (.aload_n 0, 1) := by decide +kernel
theorem dX3_init_1 : decode cX3_init 1 = .ok (.invokespecial 3, 3) := by decide +kernel
theorem dX3_init_4 : decode cX3_init 4 = .ok (.aload_n 0, 1) := by decide +kernel
theorem dX3_init_5 : decode cX3_init 5 = .ok (.bipush 12, 2) := by decide +kernel
theorem dX3_init_7 : decode cX3_init 7 = .ok (.newarray .int, 2) := by decide +kernel
theorem dX3_init_9 : decode cX3_init 9 = .ok (.putfield 9, 3) := by decide +kernel
theorem dX3_init_12 : decode cX3_init 12 = .ok (.aload_n 0, 1) := by decide +kernel
theorem dX3_init_13 : decode cX3_init 13 = .ok (.bipush 12, 2) := by decide +kernel
theorem dX3_init_15 : decode cX3_init 15 = .ok (.newarray .int, 2) := by decide +kernel
theorem dX3_init_17 : decode cX3_init 17 = .ok (.putfield 15, 3) := by decide +kernel
theorem dX3_init_20 : decode cX3_init 20 = .ok (.aload_n 0, 1) := by decide +kernel
theorem dX3_init_21 : decode cX3_init 21 = .ok (.bipush 12, 2) := by decide +kernel
theorem dX3_init_23 : decode cX3_init 23 = .ok (.newarray .int, 2) := by decide +kernel
theorem dX3_init_25 : decode cX3_init 25 = .ok (.putfield 18, 3) := by decide +kernel
theorem dX3_init_28 : decode cX3_init 28 = .ok (.aload_n 0, 1) := by decide +kernel
theorem dX3_init_29 : decode cX3_init 29 = .ok (.bipush 12, 2) := by decide +kernel
theorem dX3_init_31 : decode cX3_init 31 = .ok (.newarray .int, 2) := by decide +kernel
theorem dX3_init_33 : decode cX3_init 33 = .ok (.putfield 21, 3) := by decide +kernel
theorem dX3_init_36 : decode cX3_init 36 = .ok (.aload_n 0, 1) := by decide +kernel
theorem dX3_init_37 : decode cX3_init 37 = .ok (.bipush 12, 2) := by decide +kernel
theorem dX3_init_39 : decode cX3_init 39 = .ok (.newarray .int, 2) := by decide +kernel
theorem dX3_init_41 : decode cX3_init 41 = .ok (.putfield 24, 3) := by decide +kernel
theorem dX3_init_44 : decode cX3_init 44 = .ok (.aload_n 0, 1) := by decide +kernel
theorem dX3_init_45 : decode cX3_init 45 = .ok (.bipush 12, 2) := by decide +kernel
theorem dX3_init_47 : decode cX3_init 47 = .ok (.newarray .int, 2) := by decide +kernel
theorem dX3_init_49 : decode cX3_init 49 = .ok (.putfield 27, 3) := by decide +kernel
theorem dX3_init_52 : decode cX3_init 52 = .ok (.aload_n 0, 1) := by decide +kernel
theorem dX3_init_53 : decode cX3_init 53 = .ok (.iconst 0, 1) := by decide +kernel
theorem dX3_init_54 : decode cX3_init 54 = .ok (.putfield 30, 3) := by decide +kernel
theorem dX3_init_57 : decode cX3_init 57 = .ok (.aload_n 0, 1) := by decide +kernel
theorem dX3_init_58 : decode cX3_init 58 = .ok (.iconst 0, 1) := by decide +kernel
theorem dX3_init_59 : decode cX3_init 59 = .ok (.putfield 34, 3) := by decide +kernel
theorem dX3_init_62 : decode cX3_init 62 = .ok (.aload_n 0, 1) := by decide +kernel
theorem dX3_init_63 : decode cX3_init 63 = .ok (.sipush 255, 3) := by decide +kernel
theorem dX3_init_66 : decode cX3_init 66 = .ok (.putfield 37, 3) := by decide +kernel
theorem dX3_init_69 : decode cX3_init 69 = .ok (.return_, 1) := by decide +kernel
theorem dX3_enter_0 : decode cX3_enter 0 = .ok (.aload_n 0, 1) := by decide +kernel
theorem dX3_enter_1 : decode cX3_enter 1 = .ok (.getfield 30, 3) := by decide +kernel
theorem dX3_enter_4 : decode cX3_enter 4 = .ok (.bipush 12, 2) := by decide +kernel
theorem dX3_enter_6 : decode cX3_enter 6 = .ok (.if_icmp .lt 4, 3) := by decide +kernel
theorem dX3_enter_9 : decode cX3_enter 9 = .ok (.return_, 1) := by decide +kernel
theorem dX3_enter_10 : decode cX3_enter 10 = .ok (.aload_n 0, 1) := by decide +kernel
theorem dX3_enter_11 : decode cX3_enter 11 = .ok (.getfield 9, 3) := by decide +kernel
theorem dX3_enter_14 : decode cX3_enter 14 = .ok (.aload_n 0, 1) := by decide +kernel
theorem dX3_enter_15 : decode cX3_enter 15 = .ok (.getfield 30, 3) := by decide +kernel
theorem dX3_enter_18 : decode cX3_enter 18 = .ok (.iload_n 1, 1) := by decide +kernel
theorem dX3_enter_19 : decode cX3_enter 19 = .ok (.iastore, 1) := by decide +kernel
theorem dX3_enter_20 : decode cX3_enter 20 = .ok (.aload_n 0, 1) := by decide +kernel
theorem dX3_enter_21 : decode cX3_enter 21 = .ok (.getfield 15, 3) := by decide +kernel
theorem dX3_enter_24 : decode cX3_enter 24 = .ok (.aload_n 0, 1) := by decide +kernel
theorem dX3_enter_25 : decode cX3_enter 25 = .ok (.getfield 30, 3) := by decide +kernel
theorem dX3_enter_28 : decode cX3_enter 28 = .ok (.iload_n 2, 1) := by decide +kernel
theorem dX3_enter_29 : decode cX3_enter 29 = .ok (.iastore, 1) := by decide +kernel
theorem dX3_enter_30 : decode cX3_enter 30 = .ok (.aload_n 0, 1) := by decide +kernel
theorem dX3_enter_31 : decode cX3_enter 31 = .ok (.getfield 18, 3) := by decide +kernel
theorem dX3_enter_34 : decode cX3_enter 34 = .ok (.aload_n 0, 1) := by decide +kernel
theorem dX3_enter_35 : decode cX3_enter 35 = .ok (.getfield 30, 3) := by decide +kernel
theorem dX3_enter_38 : decode cX3_enter 38 = .ok (.iload_n 3, 1) := by decide +kernel
theorem dX3_enter_39 : decode cX3_enter 39 = .ok (.iastore, 1) := by decide +kernel
theorem dX3_enter_40 : decode cX3_enter 40 = .ok (.aload_n 0, 1) := by decide +kernel
theorem dX3_enter_41 : decode cX3_enter 41 = .ok (.getfield 21, 3) := by decide +kernel
theorem dX3_enter_44 : decode cX3_enter 44 = .ok (.aload_n 0, 1) := by decide +kernel
theorem dX3_enter_45 : decode cX3_enter 45 = .ok (.getfield 30, 3) := by decide +kernel
theorem dX3_enter_48 : decode cX3_enter 48 = .ok (.iconst (-1), 1) := by decide +kernel
theorem dX3_enter_49 : decode cX3_enter 49 = .ok (.iastore, 1) := by decide +kernel
theorem dX3_enter_50 : decode cX3_enter 50 = .ok (.aload_n 0, 1) := by decide +kernel
theorem dX3_enter_51 : decode cX3_enter 51 = .ok (.dup, 1) := by decide +kernel
theorem dX3_enter_52 : decode cX3_enter 52 = .ok (.getfield 34, 3) := by decide +kernel
theorem dX3_enter_55 : decode cX3_enter 55 = .ok (.iconst 1, 1) := by decide +kernel
theorem dX3_enter_56 : decode cX3_enter 56 = .ok (.aload_n 0, 1) := by decide +kernel
theorem dX3_enter_57 : decode cX3_enter 57 = .ok (.getfield 30, 3) := by decide +kernel
theorem dX3_enter_60 : decode cX3_enter 60 = .ok (.ishl, 1) := by decide +kernel
theorem dX3_enter_61 : decode cX3_enter 61 = .ok (.ior, 1) := by decide +kernel
theorem dX3_enter_62 : decode cX3_enter 62 = .ok (.putfield 34, 3) := by decide +kernel
theorem dX3_enter_65 : decode cX3_enter 65 = .ok (.aload_n 0, 1) := by decide +kernel
theorem dX3_enter_66 : decode cX3_enter 66 = .ok (.dup, 1) := by decide +kernel
theorem dX3_enter_67 : decode cX3_enter 67 = .ok (.getfield 30, 3) := by decide +kernel
theorem dX3_enter_70 : decode cX3_enter 70 = .ok (.iconst 1, 1) := by decide +kernel
theorem dX3_enter_71 : decode cX3_enter 71 = .ok (.iadd, 1) := by decide +kernel
theorem dX3_enter_72 : decode cX3_enter 72 = .ok (.putfield 30, 3) := by decide +kernel
theorem dX3_enter_75 : decode cX3_enter 75 = .ok (.return_, 1) := by decide +kernel
theorem dX3_dropLast_0 : decode cX3_dropLast 0 = .ok (.aload_n 0, 1) := by decide +kernel
theorem dX3_dropLast_1 : decode cX3_dropLast 1 = .ok (.getfield 30, 3) := by decide +kernel
theorem dX3_dropLast_4 : decode cX3_dropLast 4 = .ok (.ifCond .gt 4, 3) := by decide +kernel
theorem dX3_dropLast_7 : decode cX3_dropLast 7 = .ok (.return_, 1) := by decide +kernel
theorem dX3_dropLast_8 : decode cX3_dropLast 8 = .ok (.aload_n 0, 1) := by decide +kernel
theorem dX3_dropLast_9 : decode cX3_dropLast 9 = .ok (.dup, 1) := by decide +kernel
theorem dX3_dropLast_10 : decode cX3_dropLast 10 = .ok (.getfield 30, 3) := by decide +kernel
theorem dX3_dropLast_13 : decode cX3_dropLast 13 = .ok (.iconst 1, 1) := by decide +kernel
theorem dX3_dropLast_14 : decode cX3_dropLast 14 = .ok (.isub, 1) := by decide +kernel
theorem dX3_dropLast_15 : decode cX3_dropLast 15 = .ok (.putfield 30, 3) := by decide +kernel
theorem dX3_dropLast_18 : decode cX3_dropLast 18 = .ok (.aload_n 0, 1) := by decide +kernel
theorem dX3_dropLast_19 : decode cX3_dropLast 19 = .ok (.dup, 1) := by decide +kernel
theorem dX3_dropLast_20 : decode cX3_dropLast 20 = .ok (.getfield 34, 3) := by decide +kernel
theorem dX3_dropLast_23 : decode cX3_dropLast 23 = .ok (.aload_n 0, 1) := by decide +kernel
theorem dX3_dropLast_24 : decode cX3_dropLast 24 = .ok (.invokevirtual 40, 3) := by decide +kernel
theorem dX3_dropLast_27 : decode cX3_dropLast 27 = .ok (.iand, 1) := by decide +kernel
theorem dX3_dropLast_28 : decode cX3_dropLast 28 = .ok (.putfield 34, 3) := by decide +kernel
theorem dX3_dropLast_31 : decode cX3_dropLast 31 = .ok (.iconst 0, 1) := by decide +kernel
theorem dX3_dropLast_32 : decode cX3_dropLast 32 = .ok (.istore_n 1, 1) := by decide +kernel
theorem dX3_dropLast_33 : decode cX3_dropLast 33 = .ok (.iload_n 1, 1) := by decide +kernel
theorem dX3_dropLast_34 : decode cX3_dropLast 34 = .ok (.aload_n 0, 1) := by decide +kernel
theorem dX3_dropLast_35 : decode cX3_dropLast 35 = .ok (.getfield 30, 3) := by decide +kernel
theorem dX3_dropLast_38 : decode cX3_dropLast 38 = .ok (.if_icmp .ge 35, 3) := by decide +kernel
theorem dX3_dropLast_41 : decode cX3_dropLast 41 = .ok (.aload_n 0, 1) := by decide +kernel
theorem dX3_dropLast_42 : decode cX3_dropLast 42 = .ok (.getfield 24, 3) := by decide +kernel
theorem dX3_dropLast_45 : decode cX3_dropLast 45 = .ok (.iload_n 1, 1) := by decide +kernel
theorem dX3_dropLast_46 : decode cX3_dropLast 46 = .ok (.dup2, 1) := by decide +kernel
theorem dX3_dropLast_47 : decode cX3_dropLast 47 = .ok (.iaload, 1) := by decide +kernel
theorem dX3_dropLast_48 : decode cX3_dropLast 48 = .ok (.aload_n 0, 1) := by decide +kernel
theorem dX3_dropLast_49 : decode cX3_dropLast 49 = .ok (.invokevirtual 40, 3) := by decide +kernel
theorem dX3_dropLast_52 : decode cX3_dropLast 52 = .ok (.iand, 1) := by decide +kernel
theorem dX3_dropLast_53 : decode cX3_dropLast 53 = .ok (.iastore, 1) := by decide +kernel
theorem dX3_dropLast_54 : decode cX3_dropLast 54 = .ok (.aload_n 0, 1) := by decide +kernel
theorem dX3_dropLast_55 : decode cX3_dropLast 55 = .ok (.getfield 27, 3) := by decide +kernel
theorem dX3_dropLast_58 : decode cX3_dropLast 58 = .ok (.iload_n 1, 1) := by decide +kernel
theorem dX3_dropLast_59 : decode cX3_dropLast 59 = .ok (.dup2, 1) := by decide +kernel
theorem dX3_dropLast_60 : decode cX3_dropLast 60 = .ok (.iaload, 1) := by decide +kernel
theorem dX3_dropLast_61 : decode cX3_dropLast 61 = .ok (.aload_n 0, 1) := by decide +kernel
theorem dX3_dropLast_62 : decode cX3_dropLast 62 = .ok (.invokevirtual 40, 3) := by decide +kernel
theorem dX3_dropLast_65 : decode cX3_dropLast 65 = .ok (.iand, 1) := by decide +kernel
theorem dX3_dropLast_66 : decode cX3_dropLast 66 = .ok (.iastore, 1) := by decide +kernel
theorem dX3_dropLast_67 : decode cX3_dropLast 67 = .ok (.iinc 1 1, 3) := by decide +kernel
theorem dX3_dropLast_70 : decode cX3_dropLast 70 = .ok (.goto (-37), 3) := by decide +kernel
theorem dX3_dropLast_73 : decode cX3_dropLast 73 = .ok (.aload_n 0, 1) := by decide +kernel
theorem dX3_dropLast_74 : decode cX3_dropLast 74 = .ok (.getfield 24, 3) := by decide +kernel
theorem dX3_dropLast_77 : decode cX3_dropLast 77 = .ok (.aload_n 0, 1) := by decide +kernel
theorem dX3_dropLast_78 : decode cX3_dropLast 78 = .ok (.getfield 30, 3) := by decide +kernel
theorem dX3_dropLast_81 : decode cX3_dropLast 81 = .ok (.iconst 0, 1) := by decide +kernel
theorem dX3_dropLast_82 : decode cX3_dropLast 82 = .ok (.iastore, 1) := by decide +kernel
theorem dX3_dropLast_83 : decode cX3_dropLast 83 = .ok (.aload_n 0, 1) := by decide +kernel
theorem dX3_dropLast_84 : decode cX3_dropLast 84 = .ok (.getfield 27, 3) := by decide +kernel
theorem dX3_dropLast_87 : decode cX3_dropLast 87 = .ok (.aload_n 0, 1) := by decide +kernel
theorem dX3_dropLast_88 : decode cX3_dropLast 88 = .ok (.getfield 30, 3) := by decide +kernel
theorem dX3_dropLast_91 : decode cX3_dropLast 91 = .ok (.iconst 0, 1) := by decide +kernel
theorem dX3_dropLast_92 : decode cX3_dropLast 92 = .ok (.iastore, 1) := by decide +kernel
theorem dX3_dropLast_93 : decode cX3_dropLast 93 = .ok (.return_, 1) := by decide +kernel
theorem dX3_everyone_0 : decode cX3_everyone 0 = .ok (.iconst 1, 1) := by decide +kernel
theorem dX3_everyone_1 : decode cX3_everyone 1 = .ok (.aload_n 0, 1) := by decide +kernel
theorem dX3_everyone_2 : decode cX3_everyone 2 = .ok (.getfield 30, 3) := by decide +kernel
theorem dX3_everyone_5 : decode cX3_everyone 5 = .ok (.ishl, 1) := by decide +kernel
theorem dX3_everyone_6 : decode cX3_everyone 6 = .ok (.iconst 1, 1) := by decide +kernel
theorem dX3_everyone_7 : decode cX3_everyone 7 = .ok (.isub, 1) := by decide +kernel
theorem dX3_everyone_8 : decode cX3_everyone 8 = .ok (.ireturn, 1) := by decide +kernel
theorem dX3_stayers_0 : decode cX3_stayers 0 = .ok (.aload_n 0, 1) := by decide +kernel
theorem dX3_stayers_1 : decode cX3_stayers 1 = .ok (.invokevirtual 40, 3) := by decide +kernel
theorem dX3_stayers_4 : decode cX3_stayers 4 = .ok (.aload_n 0, 1) := by decide +kernel
theorem dX3_stayers_5 : decode cX3_stayers 5 = .ok (.getfield 34, 3) := by decide +kernel
theorem dX3_stayers_8 : decode cX3_stayers 8 = .ok (.iconst (-1), 1) := by decide +kernel
theorem dX3_stayers_9 : decode cX3_stayers 9 = .ok (.ixor, 1) := by decide +kernel
theorem dX3_stayers_10 : decode cX3_stayers 10 = .ok (.iand, 1) := by decide +kernel
theorem dX3_stayers_11 : decode cX3_stayers 11 = .ok (.ireturn, 1) := by decide +kernel
theorem dX3_degree_0 : decode cX3_degree 0 = .ok (.aload_n 0, 1) := by decide +kernel
theorem dX3_degree_1 : decode cX3_degree 1 = .ok (.getfield 24, 3) := by decide +kernel
theorem dX3_degree_4 : decode cX3_degree 4 = .ok (.iload_n 1, 1) := by decide +kernel
theorem dX3_degree_5 : decode cX3_degree 5 = .ok (.iaload, 1) := by decide +kernel
theorem dX3_degree_6 : decode cX3_degree 6 = .ok (.aload_n 0, 1) := by decide +kernel
theorem dX3_degree_7 : decode cX3_degree 7 = .ok (.getfield 27, 3) := by decide +kernel
theorem dX3_degree_10 : decode cX3_degree 10 = .ok (.iload_n 1, 1) := by decide +kernel
theorem dX3_degree_11 : decode cX3_degree 11 = .ok (.iaload, 1) := by decide +kernel
theorem dX3_degree_12 : decode cX3_degree 12 = .ok (.ior, 1) := by decide +kernel
theorem dX3_degree_13 : decode cX3_degree 13 = .ok (.invokestatic 44, 3) := by decide +kernel
theorem dX3_degree_16 : decode cX3_degree 16 = .ok (.ireturn, 1) := by decide +kernel
theorem dX3_volume_0 : decode cX3_volume 0 = .ok (.aload_n 0, 1) := by decide +kernel
theorem dX3_volume_1 : decode cX3_volume 1 = .ok (.iload_n 1, 1) := by decide +kernel
theorem dX3_volume_2 : decode cX3_volume 2 = .ok (.invokevirtual 50, 3) := by decide +kernel
theorem dX3_volume_5 : decode cX3_volume 5 = .ok (.iconst 1, 1) := by decide +kernel
theorem dX3_volume_6 : decode cX3_volume 6 = .ok (.iadd, 1) := by decide +kernel
theorem dX3_volume_7 : decode cX3_volume 7 = .ok (.i2f, 1) := by decide +kernel
theorem dX3_volume_8 : decode cX3_volume 8 = .ok (.aload_n 0, 1) := by decide +kernel
theorem dX3_volume_9 : decode cX3_volume 9 = .ok (.getfield 18, 3) := by decide +kernel
theorem dX3_volume_12 : decode cX3_volume 12 = .ok (.iload_n 1, 1) := by decide +kernel
theorem dX3_volume_13 : decode cX3_volume 13 = .ok (.iaload, 1) := by decide +kernel
theorem dX3_volume_14 : decode cX3_volume 14 = .ok (.i2f, 1) := by decide +kernel
theorem dX3_volume_15 : decode cX3_volume 15 = .ok (.fmul, 1) := by decide +kernel
theorem dX3_volume_16 : decode cX3_volume 16 = .ok (.ldc 53, 2) := by decide +kernel
theorem dX3_volume_18 : decode cX3_volume 18 = .ok (.fdiv, 1) := by decide +kernel
theorem dX3_volume_19 : decode cX3_volume 19 = .ok (.freturn, 1) := by decide +kernel
theorem dX3_priceWith_0 : decode cX3_priceWith 0 = .ok (.aload_n 0, 1) := by decide +kernel
theorem dX3_priceWith_1 : decode cX3_priceWith 1 = .ok (.iload_n 1, 1) := by decide +kernel
theorem dX3_priceWith_2 : decode cX3_priceWith 2 = .ok (.invokevirtual 54, 3) := by decide +kernel
theorem dX3_priceWith_5 : decode cX3_priceWith 5 = .ok (.iload_n 2, 1) := by decide +kernel
theorem dX3_priceWith_6 : decode cX3_priceWith 6 = .ok (.i2f, 1) := by decide +kernel
theorem dX3_priceWith_7 : decode cX3_priceWith 7 = .ok (.fmul, 1) := by decide +kernel
theorem dX3_priceWith_8 : decode cX3_priceWith 8 = .ok (.f2i, 1) := by decide +kernel
theorem dX3_priceWith_9 : decode cX3_priceWith 9 = .ok (.ireturn, 1) := by decide +kernel
theorem dX3_usedChannels_0 : decode cX3_usedChannels 0 = .ok (.iconst 0, 1) := by decide +kernel
theorem dX3_usedChannels_1 : decode cX3_usedChannels 1 = .ok (.istore_n 1, 1) := by decide +kernel
theorem dX3_usedChannels_2 : decode cX3_usedChannels 2 = .ok (.iconst 0, 1) := by decide +kernel
theorem dX3_usedChannels_3 : decode cX3_usedChannels 3 = .ok (.istore_n 2, 1) := by decide +kernel
theorem dX3_usedChannels_4 : decode cX3_usedChannels 4 = .ok (.iload_n 2, 1) := by decide +kernel
theorem dX3_usedChannels_5 : decode cX3_usedChannels 5 = .ok (.aload_n 0, 1) := by decide +kernel
theorem dX3_usedChannels_6 : decode cX3_usedChannels 6 = .ok (.getfield 30, 3) := by decide +kernel
theorem dX3_usedChannels_9 : decode cX3_usedChannels 9 = .ok (.if_icmp .ge 30, 3) := by decide +kernel
theorem dX3_usedChannels_12 : decode cX3_usedChannels 12 = .ok (.aload_n 0, 1) := by decide +kernel
theorem dX3_usedChannels_13 : decode cX3_usedChannels 13 = .ok (.getfield 21, 3) := by decide +kernel
theorem dX3_usedChannels_16 : decode cX3_usedChannels 16 = .ok (.iload_n 2, 1) := by decide +kernel
theorem dX3_usedChannels_17 : decode cX3_usedChannels 17 = .ok (.iaload, 1) := by decide +kernel
theorem dX3_usedChannels_18 : decode cX3_usedChannels 18 = .ok (.iconst (-1), 1) := by decide +kernel
theorem dX3_usedChannels_19 : decode cX3_usedChannels 19 = .ok (.if_icmp .eq 14, 3) := by decide +kernel
theorem dX3_usedChannels_22 : decode cX3_usedChannels 22 = .ok (.iload_n 1, 1) := by decide +kernel
theorem dX3_usedChannels_23 : decode cX3_usedChannels 23 = .ok (.iconst 1, 1) := by decide +kernel
theorem dX3_usedChannels_24 : decode cX3_usedChannels 24 = .ok (.aload_n 0, 1) := by decide +kernel
theorem dX3_usedChannels_25 : decode cX3_usedChannels 25 = .ok (.getfield 21, 3) := by decide +kernel
theorem dX3_usedChannels_28 : decode cX3_usedChannels 28 = .ok (.iload_n 2, 1) := by decide +kernel
theorem dX3_usedChannels_29 : decode cX3_usedChannels 29 = .ok (.iaload, 1) := by decide +kernel
theorem dX3_usedChannels_30 : decode cX3_usedChannels 30 = .ok (.ishl, 1) := by decide +kernel
theorem dX3_usedChannels_31 : decode cX3_usedChannels 31 = .ok (.ior, 1) := by decide +kernel
theorem dX3_usedChannels_32 : decode cX3_usedChannels 32 = .ok (.istore_n 1, 1) := by decide +kernel
theorem dX3_usedChannels_33 : decode cX3_usedChannels 33 = .ok (.iinc 2 1, 3) := by decide +kernel
theorem dX3_usedChannels_36 : decode cX3_usedChannels 36 = .ok (.goto (-32), 3) := by decide +kernel
theorem dX3_usedChannels_39 : decode cX3_usedChannels 39 = .ok (.iload_n 1, 1) := by decide +kernel
theorem dX3_usedChannels_40 : decode cX3_usedChannels 40 = .ok (.ireturn, 1) := by decide +kernel
theorem dX3_placedStations_0 : decode cX3_placedStations 0 = .ok (.iconst 0, 1) := by decide +kernel
theorem dX3_placedStations_1 : decode cX3_placedStations 1 = .ok (.istore_n 1, 1) := by decide +kernel
theorem dX3_placedStations_2 : decode cX3_placedStations 2 = .ok (.iconst 0, 1) := by decide +kernel
theorem dX3_placedStations_3 : decode cX3_placedStations 3 = .ok (.istore_n 2, 1) := by decide +kernel
theorem dX3_placedStations_4 : decode cX3_placedStations 4 = .ok (.iload_n 2, 1) := by decide +kernel
theorem dX3_placedStations_5 : decode cX3_placedStations 5 = .ok (.aload_n 0, 1) := by decide +kernel
theorem dX3_placedStations_6 : decode cX3_placedStations 6 = .ok (.getfield 30, 3) := by decide +kernel
theorem dX3_placedStations_9 : decode cX3_placedStations 9 = .ok (.if_icmp .ge 22, 3) := by decide +kernel
theorem dX3_placedStations_12 : decode cX3_placedStations 12 = .ok (.aload_n 0, 1) := by decide +kernel
theorem dX3_placedStations_13 : decode cX3_placedStations 13 = .ok (.getfield 21, 3) := by decide +kernel
theorem dX3_placedStations_16 : decode cX3_placedStations 16 = .ok (.iload_n 2, 1) := by decide +kernel
theorem dX3_placedStations_17 : decode cX3_placedStations 17 = .ok (.iaload, 1) := by decide +kernel
theorem dX3_placedStations_18 : decode cX3_placedStations 18 = .ok (.iconst (-1), 1) := by decide +kernel
theorem dX3_placedStations_19 : decode cX3_placedStations 19 = .ok (.if_icmp .eq 6, 3) := by decide +kernel
theorem dX3_placedStations_22 : decode cX3_placedStations 22 = .ok (.iinc 1 1, 3) := by decide +kernel
theorem dX3_placedStations_25 : decode cX3_placedStations 25 = .ok (.iinc 2 1, 3) := by decide +kernel
theorem dX3_placedStations_28 : decode cX3_placedStations 28 = .ok (.goto (-24), 3) := by decide +kernel
theorem dX3_placedStations_31 : decode cX3_placedStations 31 = .ok (.iload_n 1, 1) := by decide +kernel
theorem dX3_placedStations_32 : decode cX3_placedStations 32 = .ok (.ireturn, 1) := by decide +kernel
theorem dX3_hasNextIn_0 : decode cX3_hasNextIn 0 = .ok (.iconst 0, 1) := by decide +kernel
theorem dX3_hasNextIn_1 : decode cX3_hasNextIn 1 = .ok (.istore_n 2, 1) := by decide +kernel
theorem dX3_hasNextIn_2 : decode cX3_hasNextIn 2 = .ok (.iload_n 2, 1) := by decide +kernel
theorem dX3_hasNextIn_3 : decode cX3_hasNextIn 3 = .ok (.aload_n 0, 1) := by decide +kernel
theorem dX3_hasNextIn_4 : decode cX3_hasNextIn 4 = .ok (.getfield 30, 3) := by decide +kernel
theorem dX3_hasNextIn_7 : decode cX3_hasNextIn 7 = .ok (.if_icmp .ge 30, 3) := by decide +kernel
theorem dX3_hasNextIn_10 : decode cX3_hasNextIn 10 = .ok (.iload_n 1, 1) := by decide +kernel
theorem dX3_hasNextIn_11 : decode cX3_hasNextIn 11 = .ok (.iload_n 2, 1) := by decide +kernel
theorem dX3_hasNextIn_12 : decode cX3_hasNextIn 12 = .ok (.invokestatic 58, 3) := by decide +kernel
theorem dX3_hasNextIn_15 : decode cX3_hasNextIn 15 = .ok (.ifCond .eq 16, 3) := by decide +kernel
theorem dX3_hasNextIn_18 : decode cX3_hasNextIn 18 = .ok (.aload_n 0, 1) := by decide +kernel
theorem dX3_hasNextIn_19 : decode cX3_hasNextIn 19 = .ok (.getfield 27, 3) := by decide +kernel
theorem dX3_hasNextIn_22 : decode cX3_hasNextIn 22 = .ok (.iload_n 2, 1) := by decide +kernel
theorem dX3_hasNextIn_23 : decode cX3_hasNextIn 23 = .ok (.iaload, 1) := by decide +kernel
theorem dX3_hasNextIn_24 : decode cX3_hasNextIn 24 = .ok (.iload_n 1, 1) := by decide +kernel
theorem dX3_hasNextIn_25 : decode cX3_hasNextIn 25 = .ok (.iand, 1) := by decide +kernel
theorem dX3_hasNextIn_26 : decode cX3_hasNextIn 26 = .ok (.ifCond .eq 5, 3) := by decide +kernel
theorem dX3_hasNextIn_29 : decode cX3_hasNextIn 29 = .ok (.iconst 1, 1) := by decide +kernel
theorem dX3_hasNextIn_30 : decode cX3_hasNextIn 30 = .ok (.ireturn, 1) := by decide +kernel
theorem dX3_hasNextIn_31 : decode cX3_hasNextIn 31 = .ok (.iinc 2 1, 3) := by decide +kernel
theorem dX3_hasNextIn_34 : decode cX3_hasNextIn 34 = .ok (.goto (-32), 3) := by decide +kernel
theorem dX3_hasNextIn_37 : decode cX3_hasNextIn 37 = .ok (.iconst 0, 1) := by decide +kernel
theorem dX3_hasNextIn_38 : decode cX3_hasNextIn 38 = .ok (.ireturn, 1) := by decide +kernel
theorem dX3_copyFrom_0 : decode cX3_copyFrom 0 = .ok (.aload_n 1, 1) := by decide +kernel
theorem dX3_copyFrom_1 : decode cX3_copyFrom 1 = .ok (.getfield 9, 3) := by decide +kernel
theorem dX3_copyFrom_4 : decode cX3_copyFrom 4 = .ok (.iconst 0, 1) := by decide +kernel
theorem dX3_copyFrom_5 : decode cX3_copyFrom 5 = .ok (.aload_n 0, 1) := by decide +kernel
theorem dX3_copyFrom_6 : decode cX3_copyFrom 6 = .ok (.getfield 9, 3) := by decide +kernel
theorem dX3_copyFrom_9 : decode cX3_copyFrom 9 = .ok (.iconst 0, 1) := by decide +kernel
theorem dX3_copyFrom_10 : decode cX3_copyFrom 10 = .ok (.bipush 12, 2) := by decide +kernel
theorem dX3_copyFrom_12 : decode cX3_copyFrom 12 = .ok (.invokestatic 62, 3) := by decide +kernel
theorem dX3_copyFrom_15 : decode cX3_copyFrom 15 = .ok (.aload_n 1, 1) := by decide +kernel
theorem dX3_copyFrom_16 : decode cX3_copyFrom 16 = .ok (.getfield 15, 3) := by decide +kernel
theorem dX3_copyFrom_19 : decode cX3_copyFrom 19 = .ok (.iconst 0, 1) := by decide +kernel
theorem dX3_copyFrom_20 : decode cX3_copyFrom 20 = .ok (.aload_n 0, 1) := by decide +kernel
theorem dX3_copyFrom_21 : decode cX3_copyFrom 21 = .ok (.getfield 15, 3) := by decide +kernel
theorem dX3_copyFrom_24 : decode cX3_copyFrom 24 = .ok (.iconst 0, 1) := by decide +kernel
theorem dX3_copyFrom_25 : decode cX3_copyFrom 25 = .ok (.bipush 12, 2) := by decide +kernel
theorem dX3_copyFrom_27 : decode cX3_copyFrom 27 = .ok (.invokestatic 62, 3) := by decide +kernel
theorem dX3_copyFrom_30 : decode cX3_copyFrom 30 = .ok (.aload_n 1, 1) := by decide +kernel
theorem dX3_copyFrom_31 : decode cX3_copyFrom 31 = .ok (.getfield 18, 3) := by decide +kernel
theorem dX3_copyFrom_34 : decode cX3_copyFrom 34 = .ok (.iconst 0, 1) := by decide +kernel
theorem dX3_copyFrom_35 : decode cX3_copyFrom 35 = .ok (.aload_n 0, 1) := by decide +kernel
theorem dX3_copyFrom_36 : decode cX3_copyFrom 36 = .ok (.getfield 18, 3) := by decide +kernel
theorem dX3_copyFrom_39 : decode cX3_copyFrom 39 = .ok (.iconst 0, 1) := by decide +kernel
theorem dX3_copyFrom_40 : decode cX3_copyFrom 40 = .ok (.bipush 12, 2) := by decide +kernel
theorem dX3_copyFrom_42 : decode cX3_copyFrom 42 = .ok (.invokestatic 62, 3) := by decide +kernel
theorem dX3_copyFrom_45 : decode cX3_copyFrom 45 = .ok (.aload_n 1, 1) := by decide +kernel
theorem dX3_copyFrom_46 : decode cX3_copyFrom 46 = .ok (.getfield 21, 3) := by decide +kernel
theorem dX3_copyFrom_49 : decode cX3_copyFrom 49 = .ok (.iconst 0, 1) := by decide +kernel
theorem dX3_copyFrom_50 : decode cX3_copyFrom 50 = .ok (.aload_n 0, 1) := by decide +kernel
theorem dX3_copyFrom_51 : decode cX3_copyFrom 51 = .ok (.getfield 21, 3) := by decide +kernel
theorem dX3_copyFrom_54 : decode cX3_copyFrom 54 = .ok (.iconst 0, 1) := by decide +kernel
theorem dX3_copyFrom_55 : decode cX3_copyFrom 55 = .ok (.bipush 12, 2) := by decide +kernel
theorem dX3_copyFrom_57 : decode cX3_copyFrom 57 = .ok (.invokestatic 62, 3) := by decide +kernel
theorem dX3_copyFrom_60 : decode cX3_copyFrom 60 = .ok (.aload_n 1, 1) := by decide +kernel
theorem dX3_copyFrom_61 : decode cX3_copyFrom 61 = .ok (.getfield 24, 3) := by decide +kernel
theorem dX3_copyFrom_64 : decode cX3_copyFrom 64 = .ok (.iconst 0, 1) := by decide +kernel
theorem dX3_copyFrom_65 : decode cX3_copyFrom 65 = .ok (.aload_n 0, 1) := by decide +kernel
theorem dX3_copyFrom_66 : decode cX3_copyFrom 66 = .ok (.getfield 24, 3) := by decide +kernel
theorem dX3_copyFrom_69 : decode cX3_copyFrom 69 = .ok (.iconst 0, 1) := by decide +kernel
theorem dX3_copyFrom_70 : decode cX3_copyFrom 70 = .ok (.bipush 12, 2) := by decide +kernel
theorem dX3_copyFrom_72 : decode cX3_copyFrom 72 = .ok (.invokestatic 62, 3) := by decide +kernel
theorem dX3_copyFrom_75 : decode cX3_copyFrom 75 = .ok (.aload_n 1, 1) := by decide +kernel
theorem dX3_copyFrom_76 : decode cX3_copyFrom 76 = .ok (.getfield 27, 3) := by decide +kernel
theorem dX3_copyFrom_79 : decode cX3_copyFrom 79 = .ok (.iconst 0, 1) := by decide +kernel
theorem dX3_copyFrom_80 : decode cX3_copyFrom 80 = .ok (.aload_n 0, 1) := by decide +kernel
theorem dX3_copyFrom_81 : decode cX3_copyFrom 81 = .ok (.getfield 27, 3) := by decide +kernel
theorem dX3_copyFrom_84 : decode cX3_copyFrom 84 = .ok (.iconst 0, 1) := by decide +kernel
theorem dX3_copyFrom_85 : decode cX3_copyFrom 85 = .ok (.bipush 12, 2) := by decide +kernel
theorem dX3_copyFrom_87 : decode cX3_copyFrom 87 = .ok (.invokestatic 62, 3) := by decide +kernel
theorem dX3_copyFrom_90 : decode cX3_copyFrom 90 = .ok (.aload_n 0, 1) := by decide +kernel
theorem dX3_copyFrom_91 : decode cX3_copyFrom 91 = .ok (.aload_n 1, 1) := by decide +kernel
theorem dX3_copyFrom_92 : decode cX3_copyFrom 92 = .ok (.getfield 30, 3) := by decide +kernel
theorem dX3_copyFrom_95 : decode cX3_copyFrom 95 = .ok (.putfield 30, 3) := by decide +kernel
theorem dX3_copyFrom_98 : decode cX3_copyFrom 98 = .ok (.aload_n 0, 1) := by decide +kernel
theorem dX3_copyFrom_99 : decode cX3_copyFrom 99 = .ok (.aload_n 1, 1) := by decide +kernel
theorem dX3_copyFrom_100 : decode cX3_copyFrom 100 = .ok (.getfield 34, 3) := by decide +kernel
theorem dX3_copyFrom_103 : decode cX3_copyFrom 103 = .ok (.putfield 34, 3) := by decide +kernel
theorem dX3_copyFrom_106 : decode cX3_copyFrom 106 = .ok (.aload_n 0, 1) := by decide +kernel
theorem dX3_copyFrom_107 : decode cX3_copyFrom 107 = .ok (.aload_n 1, 1) := by decide +kernel
theorem dX3_copyFrom_108 : decode cX3_copyFrom 108 = .ok (.getfield 37, 3) := by decide +kernel
theorem dX3_copyFrom_111 : decode cX3_copyFrom 111 = .ok (.putfield 37, 3) := by decide +kernel
theorem dX3_copyFrom_114 : decode cX3_copyFrom 114 = .ok (.return_, 1) := by decide +kernel
theorem dX5_init_0 : decode cX5_init 0 = .ok (.aload_n 0, 1) := by decide +kernel
theorem dX5_init_1 : decode cX5_init 1 = .ok (.invokespecial 3, 3) := by decide +kernel
theorem dX5_init_4 : decode cX5_init 4 = .ok (.aload_n 0, 1) := by decide +kernel
theorem dX5_init_5 : decode cX5_init 5 = .ok (.sipush 420, 3) := by decide +kernel
theorem dX5_init_8 : decode cX5_init 8 = .ok (.newarray .char, 2) := by decide +kernel
theorem dX5_init_10 : decode cX5_init 10 = .ok (.putfield 9, 3) := by decide +kernel
theorem dX5_init_13 : decode cX5_init 13 = .ok (.aload_n 0, 1) := by decide +kernel
theorem dX5_init_14 : decode cX5_init 14 = .ok (.iconst 0, 1) := by decide +kernel
theorem dX5_init_15 : decode cX5_init 15 = .ok (.putfield 15, 3) := by decide +kernel
theorem dX5_init_18 : decode cX5_init 18 = .ok (.return_, 1) := by decide +kernel
theorem dX5_put_0 : decode cX5_put 0 = .ok (.aload_n 0, 1) := by decide +kernel
theorem dX5_put_1 : decode cX5_put 1 = .ok (.getfield 15, 3) := by decide +kernel
theorem dX5_put_4 : decode cX5_put 4 = .ok (.aload_n 0, 1) := by decide +kernel
theorem dX5_put_5 : decode cX5_put 5 = .ok (.getfield 9, 3) := by decide +kernel
theorem dX5_put_8 : decode cX5_put 8 = .ok (.arraylength, 1) := by decide +kernel
theorem dX5_put_9 : decode cX5_put 9 = .ok (.if_icmp .ge 23, 3) := by decide +kernel
theorem dX5_put_12 : decode cX5_put 12 = .ok (.aload_n 0, 1) := by decide +kernel
theorem dX5_put_13 : decode cX5_put 13 = .ok (.getfield 9, 3) := by decide +kernel
theorem dX5_put_16 : decode cX5_put 16 = .ok (.aload_n 0, 1) := by decide +kernel
theorem dX5_put_17 : decode cX5_put 17 = .ok (.getfield 15, 3) := by decide +kernel
theorem dX5_put_20 : decode cX5_put 20 = .ok (.iload_n 1, 1) := by decide +kernel
theorem dX5_put_21 : decode cX5_put 21 = .ok (.castore, 1) := by decide +kernel
theorem dX5_put_22 : decode cX5_put 22 = .ok (.aload_n 0, 1) := by decide +kernel
theorem dX5_put_23 : decode cX5_put 23 = .ok (.dup, 1) := by decide +kernel
theorem dX5_put_24 : decode cX5_put 24 = .ok (.getfield 15, 3) := by decide +kernel
theorem dX5_put_27 : decode cX5_put 27 = .ok (.iconst 1, 1) := by decide +kernel
theorem dX5_put_28 : decode cX5_put 28 = .ok (.iadd, 1) := by decide +kernel
theorem dX5_put_29 : decode cX5_put 29 = .ok (.putfield 15, 3) := by decide +kernel
theorem dX5_put_32 : decode cX5_put 32 = .ok (.return_, 1) := by decide +kernel
theorem dX5_putNumber_0 : decode cX5_putNumber 0 = .ok (.iload_n 1, 1) := by decide +kernel
theorem dX5_putNumber_1 : decode cX5_putNumber 1 = .ok (.bipush 10, 2) := by decide +kernel
theorem dX5_putNumber_3 : decode cX5_putNumber 3 = .ok (.if_icmp .lt 15, 3) := by decide +kernel
theorem dX5_putNumber_6 : decode cX5_putNumber 6 = .ok (.aload_n 0, 1) := by decide +kernel
theorem dX5_putNumber_7 : decode cX5_putNumber 7 = .ok (.bipush 48, 2) := by decide +kernel
theorem dX5_putNumber_9 : decode cX5_putNumber 9 = .ok (.iload_n 1, 1) := by decide +kernel
theorem dX5_putNumber_10 : decode cX5_putNumber 10 = .ok (.bipush 10, 2) := by decide +kernel
theorem dX5_putNumber_12 : decode cX5_putNumber 12 = .ok (.idiv, 1) := by decide +kernel
theorem dX5_putNumber_13 : decode cX5_putNumber 13 = .ok (.iadd, 1) := by decide +kernel
theorem dX5_putNumber_14 : decode cX5_putNumber 14 = .ok (.i2c, 1) := by decide +kernel
theorem dX5_putNumber_15 : decode cX5_putNumber 15 = .ok (.invokevirtual 19, 3) := by decide +kernel
theorem dX5_putNumber_18 : decode cX5_putNumber 18 = .ok (.aload_n 0, 1) := by decide +kernel
theorem dX5_putNumber_19 : decode cX5_putNumber 19 = .ok (.bipush 48, 2) := by decide +kernel
theorem dX5_putNumber_21 : decode cX5_putNumber 21 = .ok (.iload_n 1, 1) := by decide +kernel
theorem dX5_putNumber_22 : decode cX5_putNumber 22 = .ok (.bipush 10, 2) := by decide +kernel
theorem dX5_putNumber_24 : decode cX5_putNumber 24 = .ok (.irem, 1) := by decide +kernel
theorem dX5_putNumber_25 : decode cX5_putNumber 25 = .ok (.iadd, 1) := by decide +kernel
theorem dX5_putNumber_26 : decode cX5_putNumber 26 = .ok (.i2c, 1) := by decide +kernel
theorem dX5_putNumber_27 : decode cX5_putNumber 27 = .ok (.invokevirtual 19, 3) := by decide +kernel
theorem dX5_putNumber_30 : decode cX5_putNumber 30 = .ok (.return_, 1) := by decide +kernel
theorem dX5_at_0 : decode cX5_at 0 = .ok (.iload_n 1, 1) := by decide +kernel
theorem dX5_at_1 : decode cX5_at 1 = .ok (.ifCond .lt 20, 3) := by decide +kernel
theorem dX5_at_4 : decode cX5_at 4 = .ok (.iload_n 1, 1) := by decide +kernel
theorem dX5_at_5 : decode cX5_at 5 = .ok (.aload_n 0, 1) := by decide +kernel
theorem dX5_at_6 : decode cX5_at 6 = .ok (.getfield 15, 3) := by decide +kernel
theorem dX5_at_9 : decode cX5_at 9 = .ok (.if_icmp .ge 12, 3) := by decide +kernel
theorem dX5_at_12 : decode cX5_at 12 = .ok (.aload_n 0, 1) := by decide +kernel
theorem dX5_at_13 : decode cX5_at 13 = .ok (.getfield 9, 3) := by decide +kernel
theorem dX5_at_16 : decode cX5_at 16 = .ok (.iload_n 1, 1) := by decide +kernel
theorem dX5_at_17 : decode cX5_at 17 = .ok (.caload, 1) := by decide +kernel
theorem dX5_at_18 : decode cX5_at 18 = .ok (.goto 4, 3) := by decide +kernel
theorem dX5_at_21 : decode cX5_at 21 = .ok (.iconst 0, 1) := by decide +kernel
theorem dX5_at_22 : decode cX5_at 22 = .ok (.ireturn, 1) := by decide +kernel
theorem dL_addStation_0 : decode cL_addStation 0 = .ok (.aload 4, 2) := by decide +kernel
theorem dL_addStation_2 : decode cL_addStation 2 = .ok (.iconst 0, 1) := by decide +kernel
theorem dL_addStation_3 : decode cL_addStation 3 = .ok (.aload_n 0, 1) := by decide +kernel
theorem dL_addStation_4 : decode cL_addStation 4 = .ok (.iload_n 1, 1) := by decide +kernel
theorem dL_addStation_5 : decode cL_addStation 5 = .ok (.iload_n 2, 1) := by decide +kernel
theorem dL_addStation_6 : decode cL_addStation 6 = .ok (.iload_n 3, 1) := by decide +kernel
theorem dL_addStation_7 : decode cL_addStation 7 = .ok (.invokevirtual 7, 3) := by decide +kernel
theorem dL_addStation_10 : decode cL_addStation 10 = .ok (.i2l, 1) := by decide +kernel
theorem dL_addStation_11 : decode cL_addStation 11 = .ok (.lastore, 1) := by decide +kernel
theorem dL_addStation_12 : decode cL_addStation 12 = .ok (.goto 15, 3) := by decide +kernel
theorem dL_addStation_15 : decode cL_addStation 15 = .ok (.astore 5, 2) := by decide +kernel
theorem dL_addStation_17 : decode cL_addStation 17 = .ok (.iconst 1, 1) := by decide +kernel
theorem dL_addStation_18 : decode cL_addStation 18 = .ok (.ireturn, 1) := by decide +kernel
theorem dL_addStation_19 : decode cL_addStation 19 = .ok (.astore 5, 2) := by decide +kernel
theorem dL_addStation_21 : decode cL_addStation 21 = .ok (.iconst 2, 1) := by decide +kernel
theorem dL_addStation_22 : decode cL_addStation 22 = .ok (.ireturn, 1) := by decide +kernel
theorem dL_addStation_23 : decode cL_addStation 23 = .ok (.astore 5, 2) := by decide +kernel
theorem dL_addStation_25 : decode cL_addStation 25 = .ok (.iconst 3, 1) := by decide +kernel
theorem dL_addStation_26 : decode cL_addStation 26 = .ok (.ireturn, 1) := by decide +kernel
theorem dL_addStation_27 : decode cL_addStation 27 = .ok (.iconst 0, 1) := by decide +kernel
theorem dL_addStation_28 : decode cL_addStation 28 = .ok (.ireturn, 1) := by decide +kernel
theorem dL_removeStation_0 : decode cL_removeStation 0 = .ok (.aload_n 1, 1) := by decide +kernel
theorem dL_removeStation_1 : decode cL_removeStation 1 = .ok (.iconst 0, 1) := by decide +kernel
theorem dL_removeStation_2 : decode cL_removeStation 2 = .ok (.aload_n 0, 1) := by decide +kernel
theorem dL_removeStation_3 : decode cL_removeStation 3 = .ok (.invokevirtual 19, 3) := by decide +kernel
theorem dL_removeStation_6 : decode cL_removeStation 6 = .ok (.i2l, 1) := by decide +kernel
theorem dL_removeStation_7 : decode cL_removeStation 7 = .ok (.lastore, 1) := by decide +kernel
theorem dL_removeStation_8 : decode cL_removeStation 8 = .ok (.goto 9, 3) := by decide +kernel
theorem dL_removeStation_11 : decode cL_removeStation 11 = .ok (.astore_n 2, 1) := by decide +kernel
theorem dL_removeStation_12 : decode cL_removeStation 12 = .ok (.iconst 1, 1) := by decide +kernel
theorem dL_removeStation_13 : decode cL_removeStation 13 = .ok (.ireturn, 1) := by decide +kernel
theorem dL_removeStation_14 : decode cL_removeStation 14 = .ok (.astore_n 2, 1) := by decide +kernel
theorem dL_removeStation_15 : decode cL_removeStation 15 = .ok (.iconst 2, 1) := by decide +kernel
theorem dL_removeStation_16 : decode cL_removeStation 16 = .ok (.ireturn, 1) := by decide +kernel
theorem dL_removeStation_17 : decode cL_removeStation 17 = .ok (.iconst 0, 1) := by decide +kernel
theorem dL_removeStation_18 : decode cL_removeStation 18 = .ok (.ireturn, 1) := by decide +kernel
theorem dL_setParticipates_0 : decode cL_setParticipates 0 = .ok (.aload_n 3, 1) := by decide +kernel
theorem dL_setParticipates_1 : decode cL_setParticipates 1 = .ok (.iconst 0, 1) := by decide +kernel
theorem dL_setParticipates_2 : decode cL_setParticipates 2 = .ok (.aload_n 0, 1) := by decide +kernel
theorem dL_setParticipates_3 : decode cL_setParticipates 3 = .ok (.iload_n 1, 1) := by decide +kernel
theorem dL_setParticipates_4 : decode cL_setParticipates 4 = .ok (.iload_n 2, 1) := by decide +kernel
theorem dL_setParticipates_5 : decode cL_setParticipates 5 = .ok (.invokevirtual 23, 3) := by decide +kernel
theorem dL_setParticipates_8 : decode cL_setParticipates 8 = .ok (.ifCond .eq 7, 3) := by decide +kernel
theorem dL_setParticipates_11 : decode cL_setParticipates 11 = .ok (.lconst 1, 1) := by decide +kernel
theorem dL_setParticipates_12 : decode cL_setParticipates 12 = .ok (.goto 4, 3) := by decide +kernel
theorem dL_setParticipates_15 : decode cL_setParticipates 15 = .ok (.lconst 0, 1) := by decide +kernel
theorem dL_setParticipates_16 : decode cL_setParticipates 16 = .ok (.lastore, 1) := by decide +kernel
theorem dL_setParticipates_17 : decode cL_setParticipates 17 = .ok (.goto 11, 3) := by decide +kernel
theorem dL_setParticipates_20 : decode cL_setParticipates 20 = .ok (.astore 4, 2) := by decide +kernel
theorem dL_setParticipates_22 : decode cL_setParticipates 22 = .ok (.iconst 1, 1) := by decide +kernel
theorem dL_setParticipates_23 : decode cL_setParticipates 23 = .ok (.ireturn, 1) := by decide +kernel
theorem dL_setParticipates_24 : decode cL_setParticipates 24 = .ok (.astore 4, 2) := by decide +kernel
theorem dL_setParticipates_26 : decode cL_setParticipates 26 = .ok (.iconst 2, 1) := by decide +kernel
theorem dL_setParticipates_27 : decode cL_setParticipates 27 = .ok (.ireturn, 1) := by decide +kernel
theorem dL_setParticipates_28 : decode cL_setParticipates 28 = .ok (.iconst 0, 1) := by decide +kernel
theorem dL_setParticipates_29 : decode cL_setParticipates 29 = .ok (.ireturn, 1) := by decide +kernel
theorem dL_setValue_0 : decode cL_setValue 0 = .ok (.aload_n 3, 1) := by decide +kernel
theorem dL_setValue_1 : decode cL_setValue 1 = .ok (.iconst 0, 1) := by decide +kernel
theorem dL_setValue_2 : decode cL_setValue 2 = .ok (.aload_n 0, 1) := by decide +kernel
theorem dL_setValue_3 : decode cL_setValue 3 = .ok (.iload_n 1, 1) := by decide +kernel
theorem dL_setValue_4 : decode cL_setValue 4 = .ok (.iload_n 2, 1) := by decide +kernel
theorem dL_setValue_5 : decode cL_setValue 5 = .ok (.invokevirtual 29, 3) := by decide +kernel
theorem dL_setValue_8 : decode cL_setValue 8 = .ok (.i2l, 1) := by decide +kernel
theorem dL_setValue_9 : decode cL_setValue 9 = .ok (.lastore, 1) := by decide +kernel
theorem dL_setValue_10 : decode cL_setValue 10 = .ok (.goto 15, 3) := by decide +kernel
theorem dL_setValue_13 : decode cL_setValue 13 = .ok (.astore 4, 2) := by decide +kernel
theorem dL_setValue_15 : decode cL_setValue 15 = .ok (.iconst 1, 1) := by decide +kernel
theorem dL_setValue_16 : decode cL_setValue 16 = .ok (.ireturn, 1) := by decide +kernel
theorem dL_setValue_17 : decode cL_setValue 17 = .ok (.astore 4, 2) := by decide +kernel
theorem dL_setValue_19 : decode cL_setValue 19 = .ok (.iconst 2, 1) := by decide +kernel
theorem dL_setValue_20 : decode cL_setValue 20 = .ok (.ireturn, 1) := by decide +kernel
theorem dL_setValue_21 : decode cL_setValue 21 = .ok (.astore 4, 2) := by decide +kernel
theorem dL_setValue_23 : decode cL_setValue 23 = .ok (.iconst 3, 1) := by decide +kernel
theorem dL_setValue_24 : decode cL_setValue 24 = .ok (.ireturn, 1) := by decide +kernel
theorem dL_setValue_25 : decode cL_setValue 25 = .ok (.iconst 0, 1) := by decide +kernel
theorem dL_setValue_26 : decode cL_setValue 26 = .ok (.ireturn, 1) := by decide +kernel
theorem dL_setAvailable_0 : decode cL_setAvailable 0 = .ok (.aload_n 2, 1) := by decide +kernel
theorem dL_setAvailable_1 : decode cL_setAvailable 1 = .ok (.iconst 0, 1) := by decide +kernel
theorem dL_setAvailable_2 : decode cL_setAvailable 2 = .ok (.aload_n 0, 1) := by decide +kernel
theorem dL_setAvailable_3 : decode cL_setAvailable 3 = .ok (.iload_n 1, 1) := by decide +kernel
theorem dL_setAvailable_4 : decode cL_setAvailable 4 = .ok (.invokevirtual 33, 3) := by decide +kernel
theorem dL_setAvailable_7 : decode cL_setAvailable 7 = .ok (.i2l, 1) := by decide +kernel
theorem dL_setAvailable_8 : decode cL_setAvailable 8 = .ok (.lastore, 1) := by decide +kernel
theorem dL_setAvailable_9 : decode cL_setAvailable 9 = .ok (.goto 9, 3) := by decide +kernel
theorem dL_setAvailable_12 : decode cL_setAvailable 12 = .ok (.astore_n 3, 1) := by decide +kernel
theorem dL_setAvailable_13 : decode cL_setAvailable 13 = .ok (.iconst 1, 1) := by decide +kernel
theorem dL_setAvailable_14 : decode cL_setAvailable 14 = .ok (.ireturn, 1) := by decide +kernel
theorem dL_setAvailable_15 : decode cL_setAvailable 15 = .ok (.astore_n 3, 1) := by decide +kernel
theorem dL_setAvailable_16 : decode cL_setAvailable 16 = .ok (.iconst 2, 1) := by decide +kernel
theorem dL_setAvailable_17 : decode cL_setAvailable 17 = .ok (.ireturn, 1) := by decide +kernel
theorem dL_setAvailable_18 : decode cL_setAvailable 18 = .ok (.iconst 0, 1) := by decide +kernel
theorem dL_setAvailable_19 : decode cL_setAvailable 19 = .ok (.ireturn, 1) := by decide +kernel
theorem dL_append_0 : decode cL_append 0 = .ok (.aload_n 2, 1) := by decide +kernel
theorem dL_append_1 : decode cL_append 1 = .ok (.iconst 0, 1) := by decide +kernel
theorem dL_append_2 : decode cL_append 2 = .ok (.aload_n 0, 1) := by decide +kernel
theorem dL_append_3 : decode cL_append 3 = .ok (.iload_n 1, 1) := by decide +kernel
theorem dL_append_4 : decode cL_append 4 = .ok (.invokevirtual 37, 3) := by decide +kernel
theorem dL_append_7 : decode cL_append 7 = .ok (.i2l, 1) := by decide +kernel
theorem dL_append_8 : decode cL_append 8 = .ok (.lastore, 1) := by decide +kernel
theorem dL_append_9 : decode cL_append 9 = .ok (.goto 9, 3) := by decide +kernel
theorem dL_append_12 : decode cL_append 12 = .ok (.astore_n 3, 1) := by decide +kernel
theorem dL_append_13 : decode cL_append 13 = .ok (.iconst 1, 1) := by decide +kernel
theorem dL_append_14 : decode cL_append 14 = .ok (.ireturn, 1) := by decide +kernel
theorem dL_append_15 : decode cL_append 15 = .ok (.astore_n 3, 1) := by decide +kernel
theorem dL_append_16 : decode cL_append 16 = .ok (.iconst 2, 1) := by decide +kernel
theorem dL_append_17 : decode cL_append 17 = .ok (.ireturn, 1) := by decide +kernel
theorem dL_append_18 : decode cL_append 18 = .ok (.iconst 0, 1) := by decide +kernel
theorem dL_append_19 : decode cL_append 19 = .ok (.ireturn, 1) := by decide +kernel
theorem dL_setConflicts_0 : decode cL_setConflicts 0 = .ok (.aload_n 1, 1) := by decide +kernel
theorem dL_setConflicts_1 : decode cL_setConflicts 1 = .ok (.iconst 0, 1) := by decide +kernel
theorem dL_setConflicts_2 : decode cL_setConflicts 2 = .ok (.aload_n 0, 1) := by decide +kernel
theorem dL_setConflicts_3 : decode cL_setConflicts 3 = .ok (.invokevirtual 40, 3) := by decide +kernel
theorem dL_setConflicts_6 : decode cL_setConflicts 6 = .ok (.i2l, 1) := by decide +kernel
theorem dL_setConflicts_7 : decode cL_setConflicts 7 = .ok (.lastore, 1) := by decide +kernel
theorem dL_setConflicts_8 : decode cL_setConflicts 8 = .ok (.goto 9, 3) := by decide +kernel
theorem dL_setConflicts_11 : decode cL_setConflicts 11 = .ok (.astore_n 2, 1) := by decide +kernel
theorem dL_setConflicts_12 : decode cL_setConflicts 12 = .ok (.iconst 1, 1) := by decide +kernel
theorem dL_setConflicts_13 : decode cL_setConflicts 13 = .ok (.ireturn, 1) := by decide +kernel
theorem dL_setConflicts_14 : decode cL_setConflicts 14 = .ok (.astore_n 2, 1) := by decide +kernel
theorem dL_setConflicts_15 : decode cL_setConflicts 15 = .ok (.iconst 2, 1) := by decide +kernel
theorem dL_setConflicts_16 : decode cL_setConflicts 16 = .ok (.ireturn, 1) := by decide +kernel
theorem dL_setConflicts_17 : decode cL_setConflicts 17 = .ok (.iconst 0, 1) := by decide +kernel
theorem dL_setConflicts_18 : decode cL_setConflicts 18 = .ok (.ireturn, 1) := by decide +kernel
theorem dL_hasConflict_0 : decode cL_hasConflict 0 = .ok (.aload 4, 2) := by decide +kernel
theorem dL_hasConflict_2 : decode cL_hasConflict 2 = .ok (.iconst 0, 1) := by decide +kernel
theorem dL_hasConflict_3 : decode cL_hasConflict 3 = .ok (.aload_n 0, 1) := by decide +kernel
theorem dL_hasConflict_4 : decode cL_hasConflict 4 = .ok (.iload_n 1, 1) := by decide +kernel
theorem dL_hasConflict_5 : decode cL_hasConflict 5 = .ok (.iload_n 2, 1) := by decide +kernel
theorem dL_hasConflict_6 : decode cL_hasConflict 6 = .ok (.iload_n 3, 1) := by decide +kernel
theorem dL_hasConflict_7 : decode cL_hasConflict 7 = .ok (.invokevirtual 43, 3) := by decide +kernel
theorem dL_hasConflict_10 : decode cL_hasConflict 10 = .ok (.ifCond .eq 7, 3) := by decide +kernel
theorem dL_hasConflict_13 : decode cL_hasConflict 13 = .ok (.lconst 1, 1) := by decide +kernel
theorem dL_hasConflict_14 : decode cL_hasConflict 14 = .ok (.goto 4, 3) := by decide +kernel
theorem dL_hasConflict_17 : decode cL_hasConflict 17 = .ok (.lconst 0, 1) := by decide +kernel
theorem dL_hasConflict_18 : decode cL_hasConflict 18 = .ok (.lastore, 1) := by decide +kernel
theorem dL_hasConflict_19 : decode cL_hasConflict 19 = .ok (.goto 11, 3) := by decide +kernel
theorem dL_hasConflict_22 : decode cL_hasConflict 22 = .ok (.astore 5, 2) := by decide +kernel
theorem dL_hasConflict_24 : decode cL_hasConflict 24 = .ok (.iconst 1, 1) := by decide +kernel
theorem dL_hasConflict_25 : decode cL_hasConflict 25 = .ok (.ireturn, 1) := by decide +kernel
theorem dL_hasConflict_26 : decode cL_hasConflict 26 = .ok (.astore 5, 2) := by decide +kernel
theorem dL_hasConflict_28 : decode cL_hasConflict 28 = .ok (.iconst 2, 1) := by decide +kernel
theorem dL_hasConflict_29 : decode cL_hasConflict 29 = .ok (.ireturn, 1) := by decide +kernel
theorem dL_hasConflict_30 : decode cL_hasConflict 30 = .ok (.iconst 0, 1) := by decide +kernel
theorem dL_hasConflict_31 : decode cL_hasConflict 31 = .ok (.ireturn, 1) := by decide +kernel
theorem dL_conflicts_0 : decode cL_conflicts 0 = .ok (.aload_n 2, 1) := by decide +kernel
theorem dL_conflicts_1 : decode cL_conflicts 1 = .ok (.iconst 0, 1) := by decide +kernel
theorem dL_conflicts_2 : decode cL_conflicts 2 = .ok (.aload_n 0, 1) := by decide +kernel
theorem dL_conflicts_3 : decode cL_conflicts 3 = .ok (.iload_n 1, 1) := by decide +kernel
theorem dL_conflicts_4 : decode cL_conflicts 4 = .ok (.invokevirtual 47, 3) := by decide +kernel
theorem dL_conflicts_7 : decode cL_conflicts 7 = .ok (.i2l, 1) := by decide +kernel
theorem dL_conflicts_8 : decode cL_conflicts 8 = .ok (.lastore, 1) := by decide +kernel
theorem dL_conflicts_9 : decode cL_conflicts 9 = .ok (.goto 6, 3) := by decide +kernel
theorem dL_conflicts_12 : decode cL_conflicts 12 = .ok (.astore_n 3, 1) := by decide +kernel
theorem dL_conflicts_13 : decode cL_conflicts 13 = .ok (.iconst 1, 1) := by decide +kernel
theorem dL_conflicts_14 : decode cL_conflicts 14 = .ok (.ireturn, 1) := by decide +kernel
theorem dL_conflicts_15 : decode cL_conflicts 15 = .ok (.iconst 0, 1) := by decide +kernel
theorem dL_conflicts_16 : decode cL_conflicts 16 = .ok (.ireturn, 1) := by decide +kernel
theorem dL_station_0 : decode cL_station 0 = .ok (.aload_n 3, 1) := by decide +kernel
theorem dL_station_1 : decode cL_station 1 = .ok (.iconst 0, 1) := by decide +kernel
theorem dL_station_2 : decode cL_station 2 = .ok (.aload_n 0, 1) := by decide +kernel
theorem dL_station_3 : decode cL_station 3 = .ok (.iload_n 1, 1) := by decide +kernel
theorem dL_station_4 : decode cL_station 4 = .ok (.iload_n 2, 1) := by decide +kernel
theorem dL_station_5 : decode cL_station 5 = .ok (.invokevirtual 50, 3) := by decide +kernel
theorem dL_station_8 : decode cL_station 8 = .ok (.i2l, 1) := by decide +kernel
theorem dL_station_9 : decode cL_station 9 = .ok (.lastore, 1) := by decide +kernel
theorem dL_station_10 : decode cL_station 10 = .ok (.goto 11, 3) := by decide +kernel
theorem dL_station_13 : decode cL_station 13 = .ok (.astore 4, 2) := by decide +kernel
theorem dL_station_15 : decode cL_station 15 = .ok (.iconst 1, 1) := by decide +kernel
theorem dL_station_16 : decode cL_station 16 = .ok (.ireturn, 1) := by decide +kernel
theorem dL_station_17 : decode cL_station 17 = .ok (.astore 4, 2) := by decide +kernel
theorem dL_station_19 : decode cL_station 19 = .ok (.iconst 2, 1) := by decide +kernel
theorem dL_station_20 : decode cL_station 20 = .ok (.ireturn, 1) := by decide +kernel
theorem dL_station_21 : decode cL_station 21 = .ok (.iconst 0, 1) := by decide +kernel
theorem dL_station_22 : decode cL_station 22 = .ok (.ireturn, 1) := by decide +kernel
theorem dL_volumeBits_0 : decode cL_volumeBits 0 = .ok (.aload_n 2, 1) := by decide +kernel
theorem dL_volumeBits_1 : decode cL_volumeBits 1 = .ok (.iconst 0, 1) := by decide +kernel
theorem dL_volumeBits_2 : decode cL_volumeBits 2 = .ok (.aload_n 0, 1) := by decide +kernel
theorem dL_volumeBits_3 : decode cL_volumeBits 3 = .ok (.iload_n 1, 1) := by decide +kernel
theorem dL_volumeBits_4 : decode cL_volumeBits 4 = .ok (.invokevirtual 53, 3) := by decide +kernel
theorem dL_volumeBits_7 : decode cL_volumeBits 7 = .ok (.i2l, 1) := by decide +kernel
theorem dL_volumeBits_8 : decode cL_volumeBits 8 = .ok (.lastore, 1) := by decide +kernel
theorem dL_volumeBits_9 : decode cL_volumeBits 9 = .ok (.goto 6, 3) := by decide +kernel
theorem dL_volumeBits_12 : decode cL_volumeBits 12 = .ok (.astore_n 3, 1) := by decide +kernel
theorem dL_volumeBits_13 : decode cL_volumeBits 13 = .ok (.iconst 1, 1) := by decide +kernel
theorem dL_volumeBits_14 : decode cL_volumeBits 14 = .ok (.ireturn, 1) := by decide +kernel
theorem dL_volumeBits_15 : decode cL_volumeBits 15 = .ok (.iconst 0, 1) := by decide +kernel
theorem dL_volumeBits_16 : decode cL_volumeBits 16 = .ok (.ireturn, 1) := by decide +kernel
theorem dL_priceAt_0 : decode cL_priceAt 0 = .ok (.aload_n 3, 1) := by decide +kernel
theorem dL_priceAt_1 : decode cL_priceAt 1 = .ok (.iconst 0, 1) := by decide +kernel
theorem dL_priceAt_2 : decode cL_priceAt 2 = .ok (.aload_n 0, 1) := by decide +kernel
theorem dL_priceAt_3 : decode cL_priceAt 3 = .ok (.iload_n 1, 1) := by decide +kernel
theorem dL_priceAt_4 : decode cL_priceAt 4 = .ok (.iload_n 2, 1) := by decide +kernel
theorem dL_priceAt_5 : decode cL_priceAt 5 = .ok (.invokevirtual 56, 3) := by decide +kernel
theorem dL_priceAt_8 : decode cL_priceAt 8 = .ok (.i2l, 1) := by decide +kernel
theorem dL_priceAt_9 : decode cL_priceAt 9 = .ok (.lastore, 1) := by decide +kernel
theorem dL_priceAt_10 : decode cL_priceAt 10 = .ok (.goto 11, 3) := by decide +kernel
theorem dL_priceAt_13 : decode cL_priceAt 13 = .ok (.astore 4, 2) := by decide +kernel
theorem dL_priceAt_15 : decode cL_priceAt 15 = .ok (.iconst 1, 1) := by decide +kernel
theorem dL_priceAt_16 : decode cL_priceAt 16 = .ok (.ireturn, 1) := by decide +kernel
theorem dL_priceAt_17 : decode cL_priceAt 17 = .ok (.astore 4, 2) := by decide +kernel
theorem dL_priceAt_19 : decode cL_priceAt 19 = .ok (.iconst 2, 1) := by decide +kernel
theorem dL_priceAt_20 : decode cL_priceAt 20 = .ok (.ireturn, 1) := by decide +kernel
theorem dL_priceAt_21 : decode cL_priceAt 21 = .ok (.iconst 0, 1) := by decide +kernel
theorem dL_priceAt_22 : decode cL_priceAt 22 = .ok (.ireturn, 1) := by decide +kernel
theorem dL_isFeasible_0 : decode cL_isFeasible 0 = .ok (.aload_n 2, 1) := by decide +kernel
theorem dL_isFeasible_1 : decode cL_isFeasible 1 = .ok (.iconst 0, 1) := by decide +kernel
theorem dL_isFeasible_2 : decode cL_isFeasible 2 = .ok (.aload_n 0, 1) := by decide +kernel
theorem dL_isFeasible_3 : decode cL_isFeasible 3 = .ok (.iload_n 1, 1) := by decide +kernel
theorem dL_isFeasible_4 : decode cL_isFeasible 4 = .ok (.invokevirtual 59, 3) := by decide +kernel
theorem dL_isFeasible_7 : decode cL_isFeasible 7 = .ok (.ifCond .eq 7, 3) := by decide +kernel
theorem dL_isFeasible_10 : decode cL_isFeasible 10 = .ok (.lconst 1, 1) := by decide +kernel
theorem dL_isFeasible_11 : decode cL_isFeasible 11 = .ok (.goto 4, 3) := by decide +kernel
theorem dL_isFeasible_14 : decode cL_isFeasible 14 = .ok (.lconst 0, 1) := by decide +kernel
theorem dL_isFeasible_15 : decode cL_isFeasible 15 = .ok (.lastore, 1) := by decide +kernel
theorem dL_isFeasible_16 : decode cL_isFeasible 16 = .ok (.goto 6, 3) := by decide +kernel
theorem dL_isFeasible_19 : decode cL_isFeasible 19 = .ok (.astore_n 3, 1) := by decide +kernel
theorem dL_isFeasible_20 : decode cL_isFeasible 20 = .ok (.iconst 1, 1) := by decide +kernel
theorem dL_isFeasible_21 : decode cL_isFeasible 21 = .ok (.ireturn, 1) := by decide +kernel
theorem dL_isFeasible_22 : decode cL_isFeasible 22 = .ok (.iconst 0, 1) := by decide +kernel
theorem dL_isFeasible_23 : decode cL_isFeasible 23 = .ok (.ireturn, 1) := by decide +kernel
theorem dL_assign_0 : decode cL_assign 0 = .ok (.aload_n 2, 1) := by decide +kernel
theorem dL_assign_1 : decode cL_assign 1 = .ok (.iconst 0, 1) := by decide +kernel
theorem dL_assign_2 : decode cL_assign 2 = .ok (.aload_n 0, 1) := by decide +kernel
theorem dL_assign_3 : decode cL_assign 3 = .ok (.iload_n 1, 1) := by decide +kernel
theorem dL_assign_4 : decode cL_assign 4 = .ok (.invokevirtual 63, 3) := by decide +kernel
theorem dL_assign_7 : decode cL_assign 7 = .ok (.i2l, 1) := by decide +kernel
theorem dL_assign_8 : decode cL_assign 8 = .ok (.lastore, 1) := by decide +kernel
theorem dL_assign_9 : decode cL_assign 9 = .ok (.goto 9, 3) := by decide +kernel
theorem dL_assign_12 : decode cL_assign 12 = .ok (.astore_n 3, 1) := by decide +kernel
theorem dL_assign_13 : decode cL_assign 13 = .ok (.iconst 1, 1) := by decide +kernel
theorem dL_assign_14 : decode cL_assign 14 = .ok (.ireturn, 1) := by decide +kernel
theorem dL_assign_15 : decode cL_assign 15 = .ok (.astore_n 3, 1) := by decide +kernel
theorem dL_assign_16 : decode cL_assign 16 = .ok (.iconst 2, 1) := by decide +kernel
theorem dL_assign_17 : decode cL_assign 17 = .ok (.ireturn, 1) := by decide +kernel
theorem dL_assign_18 : decode cL_assign 18 = .ok (.iconst 0, 1) := by decide +kernel
theorem dL_assign_19 : decode cL_assign 19 = .ok (.ireturn, 1) := by decide +kernel
theorem dL_repack_0 : decode cL_repack 0 = .ok (.aload_n 2, 1) := by decide +kernel
theorem dL_repack_1 : decode cL_repack 1 = .ok (.iconst 0, 1) := by decide +kernel
theorem dL_repack_2 : decode cL_repack 2 = .ok (.aload_n 0, 1) := by decide +kernel
theorem dL_repack_3 : decode cL_repack 3 = .ok (.iload_n 1, 1) := by decide +kernel
theorem dL_repack_4 : decode cL_repack 4 = .ok (.invokevirtual 66, 3) := by decide +kernel
theorem dL_repack_7 : decode cL_repack 7 = .ok (.i2l, 1) := by decide +kernel
theorem dL_repack_8 : decode cL_repack 8 = .ok (.lastore, 1) := by decide +kernel
theorem dL_repack_9 : decode cL_repack 9 = .ok (.goto 9, 3) := by decide +kernel
theorem dL_repack_12 : decode cL_repack 12 = .ok (.astore_n 3, 1) := by decide +kernel
theorem dL_repack_13 : decode cL_repack 13 = .ok (.iconst 1, 1) := by decide +kernel
theorem dL_repack_14 : decode cL_repack 14 = .ok (.ireturn, 1) := by decide +kernel
theorem dL_repack_15 : decode cL_repack 15 = .ok (.astore_n 3, 1) := by decide +kernel
theorem dL_repack_16 : decode cL_repack 16 = .ok (.iconst 2, 1) := by decide +kernel
theorem dL_repack_17 : decode cL_repack 17 = .ok (.ireturn, 1) := by decide +kernel
theorem dL_repack_18 : decode cL_repack 18 = .ok (.iconst 0, 1) := by decide +kernel
theorem dL_repack_19 : decode cL_repack 19 = .ok (.ireturn, 1) := by decide +kernel
theorem dL_assignments_0 : decode cL_assignments 0 = .ok (.aload_n 2, 1) := by decide +kernel
theorem dL_assignments_1 : decode cL_assignments 1 = .ok (.iconst 0, 1) := by decide +kernel
theorem dL_assignments_2 : decode cL_assignments 2 = .ok (.aload_n 0, 1) := by decide +kernel
theorem dL_assignments_3 : decode cL_assignments 3 = .ok (.iload_n 1, 1) := by decide +kernel
theorem dL_assignments_4 : decode cL_assignments 4 = .ok (.invokevirtual 69, 3) := by decide +kernel
theorem dL_assignments_7 : decode cL_assignments 7 = .ok (.i2l, 1) := by decide +kernel
theorem dL_assignments_8 : decode cL_assignments 8 = .ok (.lastore, 1) := by decide +kernel
theorem dL_assignments_9 : decode cL_assignments 9 = .ok (.goto 6, 3) := by decide +kernel
theorem dL_assignments_12 : decode cL_assignments 12 = .ok (.astore_n 3, 1) := by decide +kernel
theorem dL_assignments_13 : decode cL_assignments 13 = .ok (.iconst 1, 1) := by decide +kernel
theorem dL_assignments_14 : decode cL_assignments 14 = .ok (.ireturn, 1) := by decide +kernel
theorem dL_assignments_15 : decode cL_assignments 15 = .ok (.iconst 0, 1) := by decide +kernel
theorem dL_assignments_16 : decode cL_assignments 16 = .ok (.ireturn, 1) := by decide +kernel
theorem dL_channelsNeeded_0 : decode cL_channelsNeeded 0 = .ok (.aload_n 2, 1) := by decide +kernel
theorem dL_channelsNeeded_1 : decode cL_channelsNeeded 1 = .ok (.iconst 0, 1) := by decide +kernel
theorem dL_channelsNeeded_2 : decode cL_channelsNeeded 2 = .ok (.aload_n 0, 1) := by decide +kernel
theorem dL_channelsNeeded_3 : decode cL_channelsNeeded 3 = .ok (.iload_n 1, 1) := by decide +kernel
theorem dL_channelsNeeded_4 : decode cL_channelsNeeded 4 = .ok (.invokevirtual 72, 3) := by decide +kernel
theorem dL_channelsNeeded_7 : decode cL_channelsNeeded 7 = .ok (.i2l, 1) := by decide +kernel
theorem dL_channelsNeeded_8 : decode cL_channelsNeeded 8 = .ok (.lastore, 1) := by decide +kernel
theorem dL_channelsNeeded_9 : decode cL_channelsNeeded 9 = .ok (.goto 9, 3) := by decide +kernel
theorem dL_channelsNeeded_12 : decode cL_channelsNeeded 12 = .ok (.astore_n 3, 1) := by decide +kernel
theorem dL_channelsNeeded_13 : decode cL_channelsNeeded 13 = .ok (.iconst 1, 1) := by decide +kernel
theorem dL_channelsNeeded_14 : decode cL_channelsNeeded 14 = .ok (.ireturn, 1) := by decide +kernel
theorem dL_channelsNeeded_15 : decode cL_channelsNeeded 15 = .ok (.astore_n 3, 1) := by decide +kernel
theorem dL_channelsNeeded_16 : decode cL_channelsNeeded 16 = .ok (.iconst 2, 1) := by decide +kernel
theorem dL_channelsNeeded_17 : decode cL_channelsNeeded 17 = .ok (.ireturn, 1) := by decide +kernel
theorem dL_channelsNeeded_18 : decode cL_channelsNeeded 18 = .ok (.iconst 0, 1) := by decide +kernel
theorem dL_channelsNeeded_19 : decode cL_channelsNeeded 19 = .ok (.ireturn, 1) := by decide +kernel
theorem dL_core_0 : decode cL_core 0 = .ok (.aload_n 3, 1) := by decide +kernel
theorem dL_core_1 : decode cL_core 1 = .ok (.iconst 0, 1) := by decide +kernel
theorem dL_core_2 : decode cL_core 2 = .ok (.aload_n 0, 1) := by decide +kernel
theorem dL_core_3 : decode cL_core 3 = .ok (.iload_n 1, 1) := by decide +kernel
theorem dL_core_4 : decode cL_core 4 = .ok (.iload_n 2, 1) := by decide +kernel
theorem dL_core_5 : decode cL_core 5 = .ok (.invokevirtual 75, 3) := by decide +kernel
theorem dL_core_8 : decode cL_core 8 = .ok (.i2l, 1) := by decide +kernel
theorem dL_core_9 : decode cL_core 9 = .ok (.lastore, 1) := by decide +kernel
theorem dL_core_10 : decode cL_core 10 = .ok (.goto 15, 3) := by decide +kernel
theorem dL_core_13 : decode cL_core 13 = .ok (.astore 4, 2) := by decide +kernel
theorem dL_core_15 : decode cL_core 15 = .ok (.iconst 1, 1) := by decide +kernel
theorem dL_core_16 : decode cL_core 16 = .ok (.ireturn, 1) := by decide +kernel
theorem dL_core_17 : decode cL_core 17 = .ok (.astore 4, 2) := by decide +kernel
theorem dL_core_19 : decode cL_core 19 = .ok (.iconst 2, 1) := by decide +kernel
theorem dL_core_20 : decode cL_core 20 = .ok (.ireturn, 1) := by decide +kernel
theorem dL_core_21 : decode cL_core 21 = .ok (.astore 4, 2) := by decide +kernel
theorem dL_core_23 : decode cL_core 23 = .ok (.iconst 3, 1) := by decide +kernel
theorem dL_core_24 : decode cL_core 24 = .ok (.ireturn, 1) := by decide +kernel
theorem dL_core_25 : decode cL_core 25 = .ok (.iconst 0, 1) := by decide +kernel
theorem dL_core_26 : decode cL_core 26 = .ok (.ireturn, 1) := by decide +kernel
theorem dL_open_0 : decode cL_open 0 = .ok (.aload_n 2, 1) := by decide +kernel
theorem dL_open_1 : decode cL_open 1 = .ok (.iconst 0, 1) := by decide +kernel
theorem dL_open_2 : decode cL_open 2 = .ok (.aload_n 0, 1) := by decide +kernel
theorem dL_open_3 : decode cL_open 3 = .ok (.iload_n 1, 1) := by decide +kernel
theorem dL_open_4 : decode cL_open 4 = .ok (.invokevirtual 80, 3) := by decide +kernel
theorem dL_open_7 : decode cL_open 7 = .ok (.i2l, 1) := by decide +kernel
theorem dL_open_8 : decode cL_open 8 = .ok (.lastore, 1) := by decide +kernel
theorem dL_open_9 : decode cL_open 9 = .ok (.goto 12, 3) := by decide +kernel
theorem dL_open_12 : decode cL_open 12 = .ok (.astore_n 3, 1) := by decide +kernel
theorem dL_open_13 : decode cL_open 13 = .ok (.iconst 1, 1) := by decide +kernel
theorem dL_open_14 : decode cL_open 14 = .ok (.ireturn, 1) := by decide +kernel
theorem dL_open_15 : decode cL_open 15 = .ok (.astore_n 3, 1) := by decide +kernel
theorem dL_open_16 : decode cL_open 16 = .ok (.iconst 2, 1) := by decide +kernel
theorem dL_open_17 : decode cL_open 17 = .ok (.ireturn, 1) := by decide +kernel
theorem dL_open_18 : decode cL_open 18 = .ok (.astore_n 3, 1) := by decide +kernel
theorem dL_open_19 : decode cL_open 19 = .ok (.iconst 3, 1) := by decide +kernel
theorem dL_open_20 : decode cL_open 20 = .ok (.ireturn, 1) := by decide +kernel
theorem dL_open_21 : decode cL_open 21 = .ok (.iconst 0, 1) := by decide +kernel
theorem dL_open_22 : decode cL_open 22 = .ok (.ireturn, 1) := by decide +kernel
theorem dL_round_0 : decode cL_round 0 = .ok (.aload_n 2, 1) := by decide +kernel
theorem dL_round_1 : decode cL_round 1 = .ok (.iconst 0, 1) := by decide +kernel
theorem dL_round_2 : decode cL_round 2 = .ok (.aload_n 0, 1) := by decide +kernel
theorem dL_round_3 : decode cL_round 3 = .ok (.iload_n 1, 1) := by decide +kernel
theorem dL_round_4 : decode cL_round 4 = .ok (.invokevirtual 83, 3) := by decide +kernel
theorem dL_round_7 : decode cL_round 7 = .ok (.i2l, 1) := by decide +kernel
theorem dL_round_8 : decode cL_round 8 = .ok (.lastore, 1) := by decide +kernel
theorem dL_round_9 : decode cL_round 9 = .ok (.goto 9, 3) := by decide +kernel
theorem dL_round_12 : decode cL_round 12 = .ok (.astore_n 3, 1) := by decide +kernel
theorem dL_round_13 : decode cL_round 13 = .ok (.iconst 1, 1) := by decide +kernel
theorem dL_round_14 : decode cL_round 14 = .ok (.ireturn, 1) := by decide +kernel
theorem dL_round_15 : decode cL_round 15 = .ok (.astore_n 3, 1) := by decide +kernel
theorem dL_round_16 : decode cL_round 16 = .ok (.iconst 2, 1) := by decide +kernel
theorem dL_round_17 : decode cL_round 17 = .ok (.ireturn, 1) := by decide +kernel
theorem dL_round_18 : decode cL_round 18 = .ok (.iconst 0, 1) := by decide +kernel
theorem dL_round_19 : decode cL_round 19 = .ok (.ireturn, 1) := by decide +kernel
theorem dL_run_0 : decode cL_run 0 = .ok (.aload_n 2, 1) := by decide +kernel
theorem dL_run_1 : decode cL_run 1 = .ok (.iconst 0, 1) := by decide +kernel
theorem dL_run_2 : decode cL_run 2 = .ok (.aload_n 0, 1) := by decide +kernel
theorem dL_run_3 : decode cL_run 3 = .ok (.iload_n 1, 1) := by decide +kernel
theorem dL_run_4 : decode cL_run 4 = .ok (.invokevirtual 86, 3) := by decide +kernel
theorem dL_run_7 : decode cL_run 7 = .ok (.i2l, 1) := by decide +kernel
theorem dL_run_8 : decode cL_run 8 = .ok (.lastore, 1) := by decide +kernel
theorem dL_run_9 : decode cL_run 9 = .ok (.goto 9, 3) := by decide +kernel
theorem dL_run_12 : decode cL_run 12 = .ok (.astore_n 3, 1) := by decide +kernel
theorem dL_run_13 : decode cL_run 13 = .ok (.iconst 1, 1) := by decide +kernel
theorem dL_run_14 : decode cL_run 14 = .ok (.ireturn, 1) := by decide +kernel
theorem dL_run_15 : decode cL_run 15 = .ok (.astore_n 3, 1) := by decide +kernel
theorem dL_run_16 : decode cL_run 16 = .ok (.iconst 2, 1) := by decide +kernel
theorem dL_run_17 : decode cL_run 17 = .ok (.ireturn, 1) := by decide +kernel
theorem dL_run_18 : decode cL_run 18 = .ok (.iconst 0, 1) := by decide +kernel
theorem dL_run_19 : decode cL_run 19 = .ok (.ireturn, 1) := by decide +kernel
theorem dL_back_0 : decode cL_back 0 = .ok (.aload_n 2, 1) := by decide +kernel
theorem dL_back_1 : decode cL_back 1 = .ok (.iconst 0, 1) := by decide +kernel
theorem dL_back_2 : decode cL_back 2 = .ok (.aload_n 0, 1) := by decide +kernel
theorem dL_back_3 : decode cL_back 3 = .ok (.iload_n 1, 1) := by decide +kernel
theorem dL_back_4 : decode cL_back 4 = .ok (.invokevirtual 89, 3) := by decide +kernel
theorem dL_back_7 : decode cL_back 7 = .ok (.i2l, 1) := by decide +kernel
theorem dL_back_8 : decode cL_back 8 = .ok (.lastore, 1) := by decide +kernel
theorem dL_back_9 : decode cL_back 9 = .ok (.goto 9, 3) := by decide +kernel
theorem dL_back_12 : decode cL_back 12 = .ok (.astore_n 3, 1) := by decide +kernel
theorem dL_back_13 : decode cL_back 13 = .ok (.iconst 1, 1) := by decide +kernel
theorem dL_back_14 : decode cL_back 14 = .ok (.ireturn, 1) := by decide +kernel
theorem dL_back_15 : decode cL_back 15 = .ok (.astore_n 3, 1) := by decide +kernel
theorem dL_back_16 : decode cL_back 16 = .ok (.iconst 2, 1) := by decide +kernel
theorem dL_back_17 : decode cL_back 17 = .ok (.ireturn, 1) := by decide +kernel
theorem dL_back_18 : decode cL_back 18 = .ok (.iconst 0, 1) := by decide +kernel
theorem dL_back_19 : decode cL_back 19 = .ok (.ireturn, 1) := by decide +kernel
theorem dL_close_0 : decode cL_close 0 = .ok (.aload_n 1, 1) := by decide +kernel
theorem dL_close_1 : decode cL_close 1 = .ok (.iconst 0, 1) := by decide +kernel
theorem dL_close_2 : decode cL_close 2 = .ok (.aload_n 0, 1) := by decide +kernel
theorem dL_close_3 : decode cL_close 3 = .ok (.invokevirtual 92, 3) := by decide +kernel
theorem dL_close_6 : decode cL_close 6 = .ok (.i2l, 1) := by decide +kernel
theorem dL_close_7 : decode cL_close 7 = .ok (.lastore, 1) := by decide +kernel
theorem dL_close_8 : decode cL_close 8 = .ok (.goto 6, 3) := by decide +kernel
theorem dL_close_11 : decode cL_close 11 = .ok (.astore_n 2, 1) := by decide +kernel
theorem dL_close_12 : decode cL_close 12 = .ok (.iconst 1, 1) := by decide +kernel
theorem dL_close_13 : decode cL_close 13 = .ok (.ireturn, 1) := by decide +kernel
theorem dL_close_14 : decode cL_close 14 = .ok (.iconst 0, 1) := by decide +kernel
theorem dL_close_15 : decode cL_close 15 = .ok (.ireturn, 1) := by decide +kernel
theorem dL_cancel_0 : decode cL_cancel 0 = .ok (.aload_n 1, 1) := by decide +kernel
theorem dL_cancel_1 : decode cL_cancel 1 = .ok (.iconst 0, 1) := by decide +kernel
theorem dL_cancel_2 : decode cL_cancel 2 = .ok (.aload_n 0, 1) := by decide +kernel
theorem dL_cancel_3 : decode cL_cancel 3 = .ok (.invokevirtual 95, 3) := by decide +kernel
theorem dL_cancel_6 : decode cL_cancel 6 = .ok (.i2l, 1) := by decide +kernel
theorem dL_cancel_7 : decode cL_cancel 7 = .ok (.lastore, 1) := by decide +kernel
theorem dL_cancel_8 : decode cL_cancel 8 = .ok (.goto 6, 3) := by decide +kernel
theorem dL_cancel_11 : decode cL_cancel 11 = .ok (.astore_n 2, 1) := by decide +kernel
theorem dL_cancel_12 : decode cL_cancel 12 = .ok (.iconst 1, 1) := by decide +kernel
theorem dL_cancel_13 : decode cL_cancel 13 = .ok (.ireturn, 1) := by decide +kernel
theorem dL_cancel_14 : decode cL_cancel 14 = .ok (.iconst 0, 1) := by decide +kernel
theorem dL_cancel_15 : decode cL_cancel 15 = .ok (.ireturn, 1) := by decide +kernel
theorem dL_state_0 : decode cL_state 0 = .ok (.aload_n 2, 1) := by decide +kernel
theorem dL_state_1 : decode cL_state 1 = .ok (.iconst 0, 1) := by decide +kernel
theorem dL_state_2 : decode cL_state 2 = .ok (.aload_n 0, 1) := by decide +kernel
theorem dL_state_3 : decode cL_state 3 = .ok (.iload_n 1, 1) := by decide +kernel
theorem dL_state_4 : decode cL_state 4 = .ok (.invokevirtual 98, 3) := by decide +kernel
theorem dL_state_7 : decode cL_state 7 = .ok (.i2l, 1) := by decide +kernel
theorem dL_state_8 : decode cL_state 8 = .ok (.lastore, 1) := by decide +kernel
theorem dL_state_9 : decode cL_state 9 = .ok (.goto 9, 3) := by decide +kernel
theorem dL_state_12 : decode cL_state 12 = .ok (.astore_n 3, 1) := by decide +kernel
theorem dL_state_13 : decode cL_state 13 = .ok (.iconst 1, 1) := by decide +kernel
theorem dL_state_14 : decode cL_state 14 = .ok (.ireturn, 1) := by decide +kernel
theorem dL_state_15 : decode cL_state 15 = .ok (.astore_n 3, 1) := by decide +kernel
theorem dL_state_16 : decode cL_state 16 = .ok (.iconst 2, 1) := by decide +kernel
theorem dL_state_17 : decode cL_state 17 = .ok (.ireturn, 1) := by decide +kernel
theorem dL_state_18 : decode cL_state 18 = .ok (.iconst 0, 1) := by decide +kernel
theorem dL_state_19 : decode cL_state 19 = .ok (.ireturn, 1) := by decide +kernel
theorem dL_price_0 : decode cL_price 0 = .ok (.aload_n 2, 1) := by decide +kernel
theorem dL_price_1 : decode cL_price 1 = .ok (.iconst 0, 1) := by decide +kernel
theorem dL_price_2 : decode cL_price 2 = .ok (.aload_n 0, 1) := by decide +kernel
theorem dL_price_3 : decode cL_price 3 = .ok (.iload_n 1, 1) := by decide +kernel
theorem dL_price_4 : decode cL_price 4 = .ok (.invokevirtual 101, 3) := by decide +kernel
theorem dL_price_7 : decode cL_price 7 = .ok (.i2l, 1) := by decide +kernel
theorem dL_price_8 : decode cL_price 8 = .ok (.lastore, 1) := by decide +kernel
theorem dL_price_9 : decode cL_price 9 = .ok (.goto 12, 3) := by decide +kernel
theorem dL_price_12 : decode cL_price 12 = .ok (.astore_n 3, 1) := by decide +kernel
theorem dL_price_13 : decode cL_price 13 = .ok (.iconst 1, 1) := by decide +kernel
theorem dL_price_14 : decode cL_price 14 = .ok (.ireturn, 1) := by decide +kernel
theorem dL_price_15 : decode cL_price 15 = .ok (.astore_n 3, 1) := by decide +kernel
theorem dL_price_16 : decode cL_price 16 = .ok (.iconst 2, 1) := by decide +kernel
theorem dL_price_17 : decode cL_price 17 = .ok (.ireturn, 1) := by decide +kernel
theorem dL_price_18 : decode cL_price 18 = .ok (.astore_n 3, 1) := by decide +kernel
theorem dL_price_19 : decode cL_price 19 = .ok (.iconst 3, 1) := by decide +kernel
theorem dL_price_20 : decode cL_price 20 = .ok (.ireturn, 1) := by decide +kernel
theorem dL_price_21 : decode cL_price 21 = .ok (.iconst 0, 1) := by decide +kernel
theorem dL_price_22 : decode cL_price 22 = .ok (.ireturn, 1) := by decide +kernel
theorem dL_frozenBy_0 : decode cL_frozenBy 0 = .ok (.aload_n 2, 1) := by decide +kernel
theorem dL_frozenBy_1 : decode cL_frozenBy 1 = .ok (.iconst 0, 1) := by decide +kernel
theorem dL_frozenBy_2 : decode cL_frozenBy 2 = .ok (.aload_n 0, 1) := by decide +kernel
theorem dL_frozenBy_3 : decode cL_frozenBy 3 = .ok (.iload_n 1, 1) := by decide +kernel
theorem dL_frozenBy_4 : decode cL_frozenBy 4 = .ok (.invokevirtual 104, 3) := by decide +kernel
theorem dL_frozenBy_7 : decode cL_frozenBy 7 = .ok (.i2l, 1) := by decide +kernel
theorem dL_frozenBy_8 : decode cL_frozenBy 8 = .ok (.lastore, 1) := by decide +kernel
theorem dL_frozenBy_9 : decode cL_frozenBy 9 = .ok (.goto 12, 3) := by decide +kernel
theorem dL_frozenBy_12 : decode cL_frozenBy 12 = .ok (.astore_n 3, 1) := by decide +kernel
theorem dL_frozenBy_13 : decode cL_frozenBy 13 = .ok (.iconst 1, 1) := by decide +kernel
theorem dL_frozenBy_14 : decode cL_frozenBy 14 = .ok (.ireturn, 1) := by decide +kernel
theorem dL_frozenBy_15 : decode cL_frozenBy 15 = .ok (.astore_n 3, 1) := by decide +kernel
theorem dL_frozenBy_16 : decode cL_frozenBy 16 = .ok (.iconst 2, 1) := by decide +kernel
theorem dL_frozenBy_17 : decode cL_frozenBy 17 = .ok (.ireturn, 1) := by decide +kernel
theorem dL_frozenBy_18 : decode cL_frozenBy 18 = .ok (.astore_n 3, 1) := by decide +kernel
theorem dL_frozenBy_19 : decode cL_frozenBy 19 = .ok (.iconst 3, 1) := by decide +kernel
theorem dL_frozenBy_20 : decode cL_frozenBy 20 = .ok (.ireturn, 1) := by decide +kernel
theorem dL_frozenBy_21 : decode cL_frozenBy 21 = .ok (.iconst 0, 1) := by decide +kernel
theorem dL_frozenBy_22 : decode cL_frozenBy 22 = .ok (.ireturn, 1) := by decide +kernel
theorem dL_auction_0 : decode cL_auction 0 = .ok (.aload_n 2, 1) := by decide +kernel
theorem dL_auction_1 : decode cL_auction 1 = .ok (.iconst 0, 1) := by decide +kernel
theorem dL_auction_2 : decode cL_auction 2 = .ok (.aload_n 0, 1) := by decide +kernel
theorem dL_auction_3 : decode cL_auction 3 = .ok (.iload_n 1, 1) := by decide +kernel
theorem dL_auction_4 : decode cL_auction 4 = .ok (.invokevirtual 107, 3) := by decide +kernel
theorem dL_auction_7 : decode cL_auction 7 = .ok (.i2l, 1) := by decide +kernel
theorem dL_auction_8 : decode cL_auction 8 = .ok (.lastore, 1) := by decide +kernel
theorem dL_auction_9 : decode cL_auction 9 = .ok (.goto 9, 3) := by decide +kernel
theorem dL_auction_12 : decode cL_auction 12 = .ok (.astore_n 3, 1) := by decide +kernel
theorem dL_auction_13 : decode cL_auction 13 = .ok (.iconst 1, 1) := by decide +kernel
theorem dL_auction_14 : decode cL_auction 14 = .ok (.ireturn, 1) := by decide +kernel
theorem dL_auction_15 : decode cL_auction 15 = .ok (.astore_n 3, 1) := by decide +kernel
theorem dL_auction_16 : decode cL_auction 16 = .ok (.iconst 2, 1) := by decide +kernel
theorem dL_auction_17 : decode cL_auction 17 = .ok (.ireturn, 1) := by decide +kernel
theorem dL_auction_18 : decode cL_auction 18 = .ok (.iconst 0, 1) := by decide +kernel
theorem dL_auction_19 : decode cL_auction 19 = .ok (.ireturn, 1) := by decide +kernel
theorem dL_event_0 : decode cL_event 0 = .ok (.aload_n 2, 1) := by decide +kernel
theorem dL_event_1 : decode cL_event 1 = .ok (.iconst 0, 1) := by decide +kernel
theorem dL_event_2 : decode cL_event 2 = .ok (.aload_n 0, 1) := by decide +kernel
theorem dL_event_3 : decode cL_event 3 = .ok (.iload_n 1, 1) := by decide +kernel
theorem dL_event_4 : decode cL_event 4 = .ok (.invokevirtual 110, 3) := by decide +kernel
theorem dL_event_7 : decode cL_event 7 = .ok (.i2l, 1) := by decide +kernel
theorem dL_event_8 : decode cL_event 8 = .ok (.lastore, 1) := by decide +kernel
theorem dL_event_9 : decode cL_event 9 = .ok (.goto 9, 3) := by decide +kernel
theorem dL_event_12 : decode cL_event 12 = .ok (.astore_n 3, 1) := by decide +kernel
theorem dL_event_13 : decode cL_event 13 = .ok (.iconst 1, 1) := by decide +kernel
theorem dL_event_14 : decode cL_event 14 = .ok (.ireturn, 1) := by decide +kernel
theorem dL_event_15 : decode cL_event 15 = .ok (.astore_n 3, 1) := by decide +kernel
theorem dL_event_16 : decode cL_event 16 = .ok (.iconst 2, 1) := by decide +kernel
theorem dL_event_17 : decode cL_event 17 = .ok (.ireturn, 1) := by decide +kernel
theorem dL_event_18 : decode cL_event 18 = .ok (.iconst 0, 1) := by decide +kernel
theorem dL_event_19 : decode cL_event 19 = .ok (.ireturn, 1) := by decide +kernel
theorem dL_order_0 : decode cL_order 0 = .ok (.aload_n 2, 1) := by decide +kernel
theorem dL_order_1 : decode cL_order 1 = .ok (.iconst 0, 1) := by decide +kernel
theorem dL_order_2 : decode cL_order 2 = .ok (.aload_n 0, 1) := by decide +kernel
theorem dL_order_3 : decode cL_order 3 = .ok (.iload_n 1, 1) := by decide +kernel
theorem dL_order_4 : decode cL_order 4 = .ok (.invokevirtual 113, 3) := by decide +kernel
theorem dL_order_7 : decode cL_order 7 = .ok (.i2l, 1) := by decide +kernel
theorem dL_order_8 : decode cL_order 8 = .ok (.lastore, 1) := by decide +kernel
theorem dL_order_9 : decode cL_order 9 = .ok (.goto 6, 3) := by decide +kernel
theorem dL_order_12 : decode cL_order 12 = .ok (.astore_n 3, 1) := by decide +kernel
theorem dL_order_13 : decode cL_order 13 = .ok (.iconst 1, 1) := by decide +kernel
theorem dL_order_14 : decode cL_order 14 = .ok (.ireturn, 1) := by decide +kernel
theorem dL_order_15 : decode cL_order 15 = .ok (.iconst 0, 1) := by decide +kernel
theorem dL_order_16 : decode cL_order 16 = .ok (.ireturn, 1) := by decide +kernel
theorem dL_best_0 : decode cL_best 0 = .ok (.aload_n 1, 1) := by decide +kernel
theorem dL_best_1 : decode cL_best 1 = .ok (.iconst 0, 1) := by decide +kernel
theorem dL_best_2 : decode cL_best 2 = .ok (.aload_n 0, 1) := by decide +kernel
theorem dL_best_3 : decode cL_best 3 = .ok (.invokevirtual 116, 3) := by decide +kernel
theorem dL_best_6 : decode cL_best 6 = .ok (.i2l, 1) := by decide +kernel
theorem dL_best_7 : decode cL_best 7 = .ok (.lastore, 1) := by decide +kernel
theorem dL_best_8 : decode cL_best 8 = .ok (.goto 6, 3) := by decide +kernel
theorem dL_best_11 : decode cL_best 11 = .ok (.astore_n 2, 1) := by decide +kernel
theorem dL_best_12 : decode cL_best 12 = .ok (.iconst 1, 1) := by decide +kernel
theorem dL_best_13 : decode cL_best 13 = .ok (.ireturn, 1) := by decide +kernel
theorem dL_best_14 : decode cL_best 14 = .ok (.iconst 0, 1) := by decide +kernel
theorem dL_best_15 : decode cL_best 15 = .ok (.ireturn, 1) := by decide +kernel
theorem dL_leastLoss_0 : decode cL_leastLoss 0 = .ok (.aload_n 1, 1) := by decide +kernel
theorem dL_leastLoss_1 : decode cL_leastLoss 1 = .ok (.iconst 0, 1) := by decide +kernel
theorem dL_leastLoss_2 : decode cL_leastLoss 2 = .ok (.aload_n 0, 1) := by decide +kernel
theorem dL_leastLoss_3 : decode cL_leastLoss 3 = .ok (.invokevirtual 119, 3) := by decide +kernel
theorem dL_leastLoss_6 : decode cL_leastLoss 6 = .ok (.i2l, 1) := by decide +kernel
theorem dL_leastLoss_7 : decode cL_leastLoss 7 = .ok (.lastore, 1) := by decide +kernel
theorem dL_leastLoss_8 : decode cL_leastLoss 8 = .ok (.goto 6, 3) := by decide +kernel
theorem dL_leastLoss_11 : decode cL_leastLoss 11 = .ok (.astore_n 2, 1) := by decide +kernel
theorem dL_leastLoss_12 : decode cL_leastLoss 12 = .ok (.iconst 1, 1) := by decide +kernel
theorem dL_leastLoss_13 : decode cL_leastLoss 13 = .ok (.ireturn, 1) := by decide +kernel
theorem dL_leastLoss_14 : decode cL_leastLoss 14 = .ok (.iconst 0, 1) := by decide +kernel
theorem dL_leastLoss_15 : decode cL_leastLoss 15 = .ok (.ireturn, 1) := by decide +kernel
theorem dL_efficiencyBits_0 : decode cL_efficiencyBits 0 = .ok (.aload_n 1, 1) := by decide +kernel
theorem dL_efficiencyBits_1 : decode cL_efficiencyBits 1 = .ok (.iconst 0, 1) := by decide +kernel
theorem dL_efficiencyBits_2 : decode cL_efficiencyBits 2 = .ok (.aload_n 0, 1) := by decide +kernel
theorem dL_efficiencyBits_3 : decode cL_efficiencyBits 3 = .ok (.invokevirtual 122, 3) := by decide +kernel
theorem dL_efficiencyBits_6 : decode cL_efficiencyBits 6 = .ok (.i2l, 1) := by decide +kernel
theorem dL_efficiencyBits_7 : decode cL_efficiencyBits 7 = .ok (.lastore, 1) := by decide +kernel
theorem dL_efficiencyBits_8 : decode cL_efficiencyBits 8 = .ok (.goto 6, 3) := by decide +kernel
theorem dL_efficiencyBits_11 : decode cL_efficiencyBits 11 = .ok (.astore_n 2, 1) := by decide +kernel
theorem dL_efficiencyBits_12 : decode cL_efficiencyBits 12 = .ok (.iconst 1, 1) := by decide +kernel
theorem dL_efficiencyBits_13 : decode cL_efficiencyBits 13 = .ok (.ireturn, 1) := by decide +kernel
theorem dL_efficiencyBits_14 : decode cL_efficiencyBits 14 = .ok (.iconst 0, 1) := by decide +kernel
theorem dL_efficiencyBits_15 : decode cL_efficiencyBits 15 = .ok (.ireturn, 1) := by decide +kernel
theorem dL_meanPriceBits_0 : decode cL_meanPriceBits 0 = .ok (.aload_n 1, 1) := by decide +kernel
theorem dL_meanPriceBits_1 : decode cL_meanPriceBits 1 = .ok (.iconst 0, 1) := by decide +kernel
theorem dL_meanPriceBits_2 : decode cL_meanPriceBits 2 = .ok (.aload_n 0, 1) := by decide +kernel
theorem dL_meanPriceBits_3 : decode cL_meanPriceBits 3 = .ok (.invokevirtual 125, 3) := by decide +kernel
theorem dL_meanPriceBits_6 : decode cL_meanPriceBits 6 = .ok (.lastore, 1) := by decide +kernel
theorem dL_meanPriceBits_7 : decode cL_meanPriceBits 7 = .ok (.goto 9, 3) := by decide +kernel
theorem dL_meanPriceBits_10 : decode cL_meanPriceBits 10 = .ok (.astore_n 2, 1) := by decide +kernel
theorem dL_meanPriceBits_11 : decode cL_meanPriceBits 11 = .ok (.iconst 1, 1) := by decide +kernel
theorem dL_meanPriceBits_12 : decode cL_meanPriceBits 12 = .ok (.ireturn, 1) := by decide +kernel
theorem dL_meanPriceBits_13 : decode cL_meanPriceBits 13 = .ok (.astore_n 2, 1) := by decide +kernel
theorem dL_meanPriceBits_14 : decode cL_meanPriceBits 14 = .ok (.iconst 2, 1) := by decide +kernel
theorem dL_meanPriceBits_15 : decode cL_meanPriceBits 15 = .ok (.ireturn, 1) := by decide +kernel
theorem dL_meanPriceBits_16 : decode cL_meanPriceBits 16 = .ok (.iconst 0, 1) := by decide +kernel
theorem dL_meanPriceBits_17 : decode cL_meanPriceBits 17 = .ok (.ireturn, 1) := by decide +kernel
theorem dL_count_0 : decode cL_count 0 = .ok (.aload_n 2, 1) := by decide +kernel
theorem dL_count_1 : decode cL_count 1 = .ok (.iconst 0, 1) := by decide +kernel
theorem dL_count_2 : decode cL_count 2 = .ok (.aload_n 0, 1) := by decide +kernel
theorem dL_count_3 : decode cL_count 3 = .ok (.iload_n 1, 1) := by decide +kernel
theorem dL_count_4 : decode cL_count 4 = .ok (.invokevirtual 131, 3) := by decide +kernel
theorem dL_count_7 : decode cL_count 7 = .ok (.i2l, 1) := by decide +kernel
theorem dL_count_8 : decode cL_count 8 = .ok (.lastore, 1) := by decide +kernel
theorem dL_count_9 : decode cL_count 9 = .ok (.goto 6, 3) := by decide +kernel
theorem dL_count_12 : decode cL_count 12 = .ok (.astore_n 3, 1) := by decide +kernel
theorem dL_count_13 : decode cL_count 13 = .ok (.iconst 1, 1) := by decide +kernel
theorem dL_count_14 : decode cL_count 14 = .ok (.ireturn, 1) := by decide +kernel
theorem dL_count_15 : decode cL_count 15 = .ok (.iconst 0, 1) := by decide +kernel
theorem dL_count_16 : decode cL_count 16 = .ok (.ireturn, 1) := by decide +kernel
theorem dL_restore_0 : decode cL_restore 0 = .ok (.aload_n 1, 1) := by decide +kernel
theorem dL_restore_1 : decode cL_restore 1 = .ok (.iconst 0, 1) := by decide +kernel
theorem dL_restore_2 : decode cL_restore 2 = .ok (.aload_n 0, 1) := by decide +kernel
theorem dL_restore_3 : decode cL_restore 3 = .ok (.invokevirtual 134, 3) := by decide +kernel
theorem dL_restore_6 : decode cL_restore 6 = .ok (.i2l, 1) := by decide +kernel
theorem dL_restore_7 : decode cL_restore 7 = .ok (.lastore, 1) := by decide +kernel
theorem dL_restore_8 : decode cL_restore 8 = .ok (.goto 6, 3) := by decide +kernel
theorem dL_restore_11 : decode cL_restore 11 = .ok (.astore_n 2, 1) := by decide +kernel
theorem dL_restore_12 : decode cL_restore 12 = .ok (.iconst 1, 1) := by decide +kernel
theorem dL_restore_13 : decode cL_restore 13 = .ok (.ireturn, 1) := by decide +kernel
theorem dL_restore_14 : decode cL_restore 14 = .ok (.iconst 0, 1) := by decide +kernel
theorem dL_restore_15 : decode cL_restore 15 = .ok (.ireturn, 1) := by decide +kernel
