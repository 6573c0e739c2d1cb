theorem dJ6_bitCount_0f7a4_0 : decode cJ6_bitCount_0f7a4 0 = Except.ok (Instr.iload_n 0, 1) := by decide +kernel
theorem dJ6_bitCount_0f7a4_1 : decode cJ6_bitCount_0f7a4 1 = Except.ok (Instr.iload_n 0, 1) := by decide +kernel
theorem dJ6_bitCount_0f7a4_2 : decode cJ6_bitCount_0f7a4 2 = Except.ok (Instr.iconst 1, 1) := by decide +kernel
theorem dJ6_bitCount_0f7a4_3 : decode cJ6_bitCount_0f7a4 3 = Except.ok (Instr.iushr, 1) := by decide +kernel
theorem dJ6_bitCount_0f7a4_4 : decode cJ6_bitCount_0f7a4 4 = Except.ok (Instr.ldc_w 265, 3) := by decide +kernel
theorem dJ6_bitCount_0f7a4_7 : decode cJ6_bitCount_0f7a4 7 = Except.ok (Instr.iand, 1) := by decide +kernel
theorem dJ6_bitCount_0f7a4_8 : decode cJ6_bitCount_0f7a4 8 = Except.ok (Instr.isub, 1) := by decide +kernel
theorem dJ6_bitCount_0f7a4_9 : decode cJ6_bitCount_0f7a4 9 = Except.ok (Instr.istore_n 0, 1) := by decide +kernel
theorem dJ6_bitCount_0f7a4_10 : decode cJ6_bitCount_0f7a4 10 = Except.ok (Instr.iload_n 0, 1) := by decide +kernel
theorem dJ6_bitCount_0f7a4_11 : decode cJ6_bitCount_0f7a4 11 = Except.ok (Instr.ldc_w 266, 3) := by decide +kernel
theorem dJ6_bitCount_0f7a4_14 : decode cJ6_bitCount_0f7a4 14 = Except.ok (Instr.iand, 1) := by decide +kernel
theorem dJ6_bitCount_0f7a4_15 : decode cJ6_bitCount_0f7a4 15 = Except.ok (Instr.iload_n 0, 1) := by decide +kernel
theorem dJ6_bitCount_0f7a4_16 : decode cJ6_bitCount_0f7a4 16 = Except.ok (Instr.iconst 2, 1) := by decide +kernel
theorem dJ6_bitCount_0f7a4_17 : decode cJ6_bitCount_0f7a4 17 = Except.ok (Instr.iushr, 1) := by decide +kernel
theorem dJ6_bitCount_0f7a4_18 : decode cJ6_bitCount_0f7a4 18 = Except.ok (Instr.ldc_w 266, 3) := by decide +kernel
theorem dJ6_bitCount_0f7a4_21 : decode cJ6_bitCount_0f7a4 21 = Except.ok (Instr.iand, 1) := by decide +kernel
theorem dJ6_bitCount_0f7a4_22 : decode cJ6_bitCount_0f7a4 22 = Except.ok (Instr.iadd, 1) := by decide +kernel
theorem dJ6_bitCount_0f7a4_23 : decode cJ6_bitCount_0f7a4 23 = Except.ok (Instr.istore_n 0, 1) := by decide +kernel
theorem dJ6_bitCount_0f7a4_24 : decode cJ6_bitCount_0f7a4 24 = Except.ok (Instr.iload_n 0, 1) := by decide +kernel
theorem dJ6_bitCount_0f7a4_25 : decode cJ6_bitCount_0f7a4 25 = Except.ok (Instr.iload_n 0, 1) := by decide +kernel
theorem dJ6_bitCount_0f7a4_26 : decode cJ6_bitCount_0f7a4 26 = Except.ok (Instr.iconst 4, 1) := by decide +kernel
theorem dJ6_bitCount_0f7a4_27 : decode cJ6_bitCount_0f7a4 27 = Except.ok (Instr.iushr, 1) := by decide +kernel
theorem dJ6_bitCount_0f7a4_28 : decode cJ6_bitCount_0f7a4 28 = Except.ok (Instr.iadd, 1) := by decide +kernel
theorem dJ6_bitCount_0f7a4_29 : decode cJ6_bitCount_0f7a4 29 = Except.ok (Instr.ldc_w 267, 3) := by decide +kernel
theorem dJ6_bitCount_0f7a4_32 : decode cJ6_bitCount_0f7a4 32 = Except.ok (Instr.iand, 1) := by decide +kernel
theorem dJ6_bitCount_0f7a4_33 : decode cJ6_bitCount_0f7a4 33 = Except.ok (Instr.istore_n 0, 1) := by decide +kernel
theorem dJ6_bitCount_0f7a4_34 : decode cJ6_bitCount_0f7a4 34 = Except.ok (Instr.iload_n 0, 1) := by decide +kernel
theorem dJ6_bitCount_0f7a4_35 : decode cJ6_bitCount_0f7a4 35 = Except.ok (Instr.iload_n 0, 1) := by decide +kernel
theorem dJ6_bitCount_0f7a4_36 : decode cJ6_bitCount_0f7a4 36 = Except.ok (Instr.bipush 8, 2) := by decide +kernel
theorem dJ6_bitCount_0f7a4_38 : decode cJ6_bitCount_0f7a4 38 = Except.ok (Instr.iushr, 1) := by decide +kernel
theorem dJ6_bitCount_0f7a4_39 : decode cJ6_bitCount_0f7a4 39 = Except.ok (Instr.iadd, 1) := by decide +kernel
theorem dJ6_bitCount_0f7a4_40 : decode cJ6_bitCount_0f7a4 40 = Except.ok (Instr.istore_n 0, 1) := by decide +kernel
theorem dJ6_bitCount_0f7a4_41 : decode cJ6_bitCount_0f7a4 41 = Except.ok (Instr.iload_n 0, 1) := by decide +kernel
theorem dJ6_bitCount_0f7a4_42 : decode cJ6_bitCount_0f7a4 42 = Except.ok (Instr.iload_n 0, 1) := by decide +kernel
theorem dJ6_bitCount_0f7a4_43 : decode cJ6_bitCount_0f7a4 43 = Except.ok (Instr.bipush 16, 2) := by decide +kernel
theorem dJ6_bitCount_0f7a4_45 : decode cJ6_bitCount_0f7a4 45 = Except.ok (Instr.iushr, 1) := by decide +kernel
theorem dJ6_bitCount_0f7a4_46 : decode cJ6_bitCount_0f7a4 46 = Except.ok (Instr.iadd, 1) := by decide +kernel
theorem dJ6_bitCount_0f7a4_47 : decode cJ6_bitCount_0f7a4 47 = Except.ok (Instr.istore_n 0, 1) := by decide +kernel
theorem dJ6_bitCount_0f7a4_48 : decode cJ6_bitCount_0f7a4 48 = Except.ok (Instr.iload_n 0, 1) := by decide +kernel
theorem dJ6_bitCount_0f7a4_49 : decode cJ6_bitCount_0f7a4 49 = Except.ok (Instr.bipush 63, 2) := by decide +kernel
theorem dJ6_bitCount_0f7a4_51 : decode cJ6_bitCount_0f7a4 51 = Except.ok (Instr.iand, 1) := by decide +kernel
theorem dJ6_bitCount_0f7a4_52 : decode cJ6_bitCount_0f7a4 52 = Except.ok (Instr.ireturn, 1) := by decide +kernel
theorem dJ7_fill_d0a16_0 : decode cJ7_fill_d0a16 0 = Except.ok (Instr.iconst 0, 1) := by decide +kernel
theorem dJ7_fill_d0a16_1 : decode cJ7_fill_d0a16 1 = Except.ok (Instr.istore_n 3, 1) := by decide +kernel
theorem dJ7_fill_d0a16_2 : decode cJ7_fill_d0a16 2 = Except.ok (Instr.aload_n 0, 1) := by decide +kernel
theorem dJ7_fill_d0a16_3 : decode cJ7_fill_d0a16 3 = Except.ok (Instr.arraylength, 1) := by decide +kernel
theorem dJ7_fill_d0a16_4 : decode cJ7_fill_d0a16 4 = Except.ok (Instr.istore 4, 2) := by decide +kernel
theorem dJ7_fill_d0a16_6 : decode cJ7_fill_d0a16 6 = Except.ok (Instr.iload_n 3, 1) := by decide +kernel
theorem dJ7_fill_d0a16_7 : decode cJ7_fill_d0a16 7 = Except.ok (Instr.iload 4, 2) := by decide +kernel
theorem dJ7_fill_d0a16_9 : decode cJ7_fill_d0a16 9 = Except.ok (Instr.if_icmp .ge 13, 3) := by decide +kernel
theorem dJ7_fill_d0a16_12 : decode cJ7_fill_d0a16 12 = Except.ok (Instr.aload_n 0, 1) := by decide +kernel
theorem dJ7_fill_d0a16_13 : decode cJ7_fill_d0a16 13 = Except.ok (Instr.iload_n 3, 1) := by decide +kernel
theorem dJ7_fill_d0a16_14 : decode cJ7_fill_d0a16 14 = Except.ok (Instr.lload_n 1, 1) := by decide +kernel
theorem dJ7_fill_d0a16_15 : decode cJ7_fill_d0a16 15 = Except.ok (Instr.lastore, 1) := by decide +kernel
theorem dJ7_fill_d0a16_16 : decode cJ7_fill_d0a16 16 = Except.ok (Instr.iinc 3 1, 3) := by decide +kernel
theorem dJ7_fill_d0a16_19 : decode cJ7_fill_d0a16 19 = Except.ok (Instr.goto (-13), 3) := by decide +kernel
theorem dJ7_fill_d0a16_22 : decode cJ7_fill_d0a16 22 = Except.ok (Instr.return_, 1) := by decide +kernel
theorem dJ7_fill_53178_0 : decode cJ7_fill_53178 0 = Except.ok (Instr.iconst 0, 1) := by decide +kernel
theorem dJ7_fill_53178_1 : decode cJ7_fill_53178 1 = Except.ok (Instr.istore_n 2, 1) := by decide +kernel
theorem dJ7_fill_53178_2 : decode cJ7_fill_53178 2 = Except.ok (Instr.aload_n 0, 1) := by decide +kernel
theorem dJ7_fill_53178_3 : decode cJ7_fill_53178 3 = Except.ok (Instr.arraylength, 1) := by decide +kernel
theorem dJ7_fill_53178_4 : decode cJ7_fill_53178 4 = Except.ok (Instr.istore_n 3, 1) := by decide +kernel
theorem dJ7_fill_53178_5 : decode cJ7_fill_53178 5 = Except.ok (Instr.iload_n 2, 1) := by decide +kernel
theorem dJ7_fill_53178_6 : decode cJ7_fill_53178 6 = Except.ok (Instr.iload_n 3, 1) := by decide +kernel
theorem dJ7_fill_53178_7 : decode cJ7_fill_53178 7 = Except.ok (Instr.if_icmp .ge 13, 3) := by decide +kernel
theorem dJ7_fill_53178_10 : decode cJ7_fill_53178 10 = Except.ok (Instr.aload_n 0, 1) := by decide +kernel
theorem dJ7_fill_53178_11 : decode cJ7_fill_53178 11 = Except.ok (Instr.iload_n 2, 1) := by decide +kernel
theorem dJ7_fill_53178_12 : decode cJ7_fill_53178 12 = Except.ok (Instr.iload_n 1, 1) := by decide +kernel
theorem dJ7_fill_53178_13 : decode cJ7_fill_53178 13 = Except.ok (Instr.iastore, 1) := by decide +kernel
theorem dJ7_fill_53178_14 : decode cJ7_fill_53178 14 = Except.ok (Instr.iinc 2 1, 3) := by decide +kernel
theorem dJ7_fill_53178_17 : decode cJ7_fill_53178 17 = Except.ok (Instr.goto (-12), 3) := by decide +kernel
theorem dJ7_fill_53178_20 : decode cJ7_fill_53178 20 = Except.ok (Instr.return_, 1) := by decide +kernel
theorem dJ9_floorDiv_7cf53_0 : decode cJ9_floorDiv_7cf53 0 = Except.ok (Instr.iload_n 0, 1) := by decide +kernel
theorem dJ9_floorDiv_7cf53_1 : decode cJ9_floorDiv_7cf53 1 = Except.ok (Instr.iload_n 1, 1) := by decide +kernel
theorem dJ9_floorDiv_7cf53_2 : decode cJ9_floorDiv_7cf53 2 = Except.ok (Instr.idiv, 1) := by decide +kernel
theorem dJ9_floorDiv_7cf53_3 : decode cJ9_floorDiv_7cf53 3 = Except.ok (Instr.istore_n 2, 1) := by decide +kernel
theorem dJ9_floorDiv_7cf53_4 : decode cJ9_floorDiv_7cf53 4 = Except.ok (Instr.iload_n 0, 1) := by decide +kernel
theorem dJ9_floorDiv_7cf53_5 : decode cJ9_floorDiv_7cf53 5 = Except.ok (Instr.iload_n 1, 1) := by decide +kernel
theorem dJ9_floorDiv_7cf53_6 : decode cJ9_floorDiv_7cf53 6 = Except.ok (Instr.ixor, 1) := by decide +kernel
theorem dJ9_floorDiv_7cf53_7 : decode cJ9_floorDiv_7cf53 7 = Except.ok (Instr.ifCond .ge 14, 3) := by decide +kernel
theorem dJ9_floorDiv_7cf53_10 : decode cJ9_floorDiv_7cf53 10 = Except.ok (Instr.iload_n 2, 1) := by decide +kernel
theorem dJ9_floorDiv_7cf53_11 : decode cJ9_floorDiv_7cf53 11 = Except.ok (Instr.iload_n 1, 1) := by decide +kernel
theorem dJ9_floorDiv_7cf53_12 : decode cJ9_floorDiv_7cf53 12 = Except.ok (Instr.imul, 1) := by decide +kernel
theorem dJ9_floorDiv_7cf53_13 : decode cJ9_floorDiv_7cf53 13 = Except.ok (Instr.iload_n 0, 1) := by decide +kernel
theorem dJ9_floorDiv_7cf53_14 : decode cJ9_floorDiv_7cf53 14 = Except.ok (Instr.if_icmp .eq 7, 3) := by decide +kernel
theorem dJ9_floorDiv_7cf53_17 : decode cJ9_floorDiv_7cf53 17 = Except.ok (Instr.iload_n 2, 1) := by decide +kernel
theorem dJ9_floorDiv_7cf53_18 : decode cJ9_floorDiv_7cf53 18 = Except.ok (Instr.iconst 1, 1) := by decide +kernel
theorem dJ9_floorDiv_7cf53_19 : decode cJ9_floorDiv_7cf53 19 = Except.ok (Instr.isub, 1) := by decide +kernel
theorem dJ9_floorDiv_7cf53_20 : decode cJ9_floorDiv_7cf53 20 = Except.ok (Instr.ireturn, 1) := by decide +kernel
theorem dJ9_floorDiv_7cf53_21 : decode cJ9_floorDiv_7cf53 21 = Except.ok (Instr.iload_n 2, 1) := by decide +kernel
theorem dJ9_floorDiv_7cf53_22 : decode cJ9_floorDiv_7cf53 22 = Except.ok (Instr.ireturn, 1) := by decide +kernel
theorem dJ9_floorDiv_f86c9_0 : decode cJ9_floorDiv_f86c9 0 = Except.ok (Instr.lload_n 0, 1) := by decide +kernel
theorem dJ9_floorDiv_f86c9_1 : decode cJ9_floorDiv_f86c9 1 = Except.ok (Instr.lload_n 2, 1) := by decide +kernel
theorem dJ9_floorDiv_f86c9_2 : decode cJ9_floorDiv_f86c9 2 = Except.ok (Instr.ldiv, 1) := by decide +kernel
theorem dJ9_floorDiv_f86c9_3 : decode cJ9_floorDiv_f86c9 3 = Except.ok (Instr.lstore 4, 2) := by decide +kernel
theorem dJ9_floorDiv_f86c9_5 : decode cJ9_floorDiv_f86c9 5 = Except.ok (Instr.lload_n 0, 1) := by decide +kernel
theorem dJ9_floorDiv_f86c9_6 : decode cJ9_floorDiv_f86c9 6 = Except.ok (Instr.lload_n 2, 1) := by decide +kernel
theorem dJ9_floorDiv_f86c9_7 : decode cJ9_floorDiv_f86c9 7 = Except.ok (Instr.lxor, 1) := by decide +kernel
theorem dJ9_floorDiv_f86c9_8 : decode cJ9_floorDiv_f86c9 8 = Except.ok (Instr.lconst 0, 1) := by decide +kernel
theorem dJ9_floorDiv_f86c9_9 : decode cJ9_floorDiv_f86c9 9 = Except.ok (Instr.lcmp, 1) := by decide +kernel
theorem dJ9_floorDiv_f86c9_10 : decode cJ9_floorDiv_f86c9 10 = Except.ok (Instr.ifCond .ge 17, 3) := by decide +kernel
theorem dJ9_floorDiv_f86c9_13 : decode cJ9_floorDiv_f86c9 13 = Except.ok (Instr.lload 4, 2) := by decide +kernel
theorem dJ9_floorDiv_f86c9_15 : decode cJ9_floorDiv_f86c9 15 = Except.ok (Instr.lload_n 2, 1) := by decide +kernel
theorem dJ9_floorDiv_f86c9_16 : decode cJ9_floorDiv_f86c9 16 = Except.ok (Instr.lmul, 1) := by decide +kernel
theorem dJ9_floorDiv_f86c9_17 : decode cJ9_floorDiv_f86c9 17 = Except.ok (Instr.lload_n 0, 1) := by decide +kernel
theorem dJ9_floorDiv_f86c9_18 : decode cJ9_floorDiv_f86c9 18 = Except.ok (Instr.lcmp, 1) := by decide +kernel
theorem dJ9_floorDiv_f86c9_19 : decode cJ9_floorDiv_f86c9 19 = Except.ok (Instr.ifCond .eq 8, 3) := by decide +kernel
theorem dJ9_floorDiv_f86c9_22 : decode cJ9_floorDiv_f86c9 22 = Except.ok (Instr.lload 4, 2) := by decide +kernel
theorem dJ9_floorDiv_f86c9_24 : decode cJ9_floorDiv_f86c9 24 = Except.ok (Instr.lconst 1, 1) := by decide +kernel
theorem dJ9_floorDiv_f86c9_25 : decode cJ9_floorDiv_f86c9 25 = Except.ok (Instr.lsub, 1) := by decide +kernel
theorem dJ9_floorDiv_f86c9_26 : decode cJ9_floorDiv_f86c9 26 = Except.ok (Instr.lreturn, 1) := by decide +kernel
theorem dJ9_floorDiv_f86c9_27 : decode cJ9_floorDiv_f86c9 27 = Except.ok (Instr.lload 4, 2) := by decide +kernel
theorem dJ9_floorDiv_f86c9_29 : decode cJ9_floorDiv_f86c9 29 = Except.ok (Instr.lreturn, 1) := by decide +kernel
theorem dJ9_max_f86c9_0 : decode cJ9_max_f86c9 0 = Except.ok (Instr.lload_n 0, 1) := by decide +kernel
theorem dJ9_max_f86c9_1 : decode cJ9_max_f86c9 1 = Except.ok (Instr.lload_n 2, 1) := by decide +kernel
theorem dJ9_max_f86c9_2 : decode cJ9_max_f86c9 2 = Except.ok (Instr.lcmp, 1) := by decide +kernel
theorem dJ9_max_f86c9_3 : decode cJ9_max_f86c9 3 = Except.ok (Instr.ifCond .lt 7, 3) := by decide +kernel
theorem dJ9_max_f86c9_6 : decode cJ9_max_f86c9 6 = Except.ok (Instr.lload_n 0, 1) := by decide +kernel
theorem dJ9_max_f86c9_7 : decode cJ9_max_f86c9 7 = Except.ok (Instr.goto 4, 3) := by decide +kernel
theorem dJ9_max_f86c9_10 : decode cJ9_max_f86c9 10 = Except.ok (Instr.lload_n 2, 1) := by decide +kernel
theorem dJ9_max_f86c9_11 : decode cJ9_max_f86c9 11 = Except.ok (Instr.lreturn, 1) := by decide +kernel
theorem dJ9_min_f86c9_0 : decode cJ9_min_f86c9 0 = Except.ok (Instr.lload_n 0, 1) := by decide +kernel
theorem dJ9_min_f86c9_1 : decode cJ9_min_f86c9 1 = Except.ok (Instr.lload_n 2, 1) := by decide +kernel
theorem dJ9_min_f86c9_2 : decode cJ9_min_f86c9 2 = Except.ok (Instr.lcmp, 1) := by decide +kernel
theorem dJ9_min_f86c9_3 : decode cJ9_min_f86c9 3 = Except.ok (Instr.ifCond .gt 7, 3) := by decide +kernel
theorem dJ9_min_f86c9_6 : decode cJ9_min_f86c9 6 = Except.ok (Instr.lload_n 0, 1) := by decide +kernel
theorem dJ9_min_f86c9_7 : decode cJ9_min_f86c9 7 = Except.ok (Instr.goto 4, 3) := by decide +kernel
theorem dJ9_min_f86c9_10 : decode cJ9_min_f86c9 10 = Except.ok (Instr.lload_n 2, 1) := by decide +kernel
theorem dJ9_min_f86c9_11 : decode cJ9_min_f86c9 11 = Except.ok (Instr.lreturn, 1) := by decide +kernel
theorem dX5_isAxis_0 : decode cX5_isAxis 0 = Except.ok (Instr.iload_n 0, 1) := by decide +kernel
theorem dX5_isAxis_1 : decode cX5_isAxis 1 = Except.ok (Instr.ifCond .lt 12, 3) := by decide +kernel
theorem dX5_isAxis_4 : decode cX5_isAxis 4 = Except.ok (Instr.iload_n 0, 1) := by decide +kernel
theorem dX5_isAxis_5 : decode cX5_isAxis 5 = Except.ok (Instr.iconst 3, 1) := by decide +kernel
theorem dX5_isAxis_6 : decode cX5_isAxis 6 = Except.ok (Instr.if_icmp .ge 7, 3) := by decide +kernel
theorem dX5_isAxis_9 : decode cX5_isAxis 9 = Except.ok (Instr.iconst 1, 1) := by decide +kernel
theorem dX5_isAxis_10 : decode cX5_isAxis 10 = Except.ok (Instr.goto 4, 3) := by decide +kernel
theorem dX5_isAxis_13 : decode cX5_isAxis 13 = Except.ok (Instr.iconst 0, 1) := by decide +kernel
theorem dX5_isAxis_14 : decode cX5_isAxis 14 = Except.ok (Instr.ireturn, 1) := by decide +kernel
theorem dX5_isBetween_0 : decode cX5_isBetween 0 = Except.ok (Instr.iload_n 0, 1) := by decide +kernel
theorem dX5_isBetween_1 : decode cX5_isBetween 1 = Except.ok (Instr.iload_n 1, 1) := by decide +kernel
theorem dX5_isBetween_2 : decode cX5_isBetween 2 = Except.ok (Instr.if_icmp .lt 12, 3) := by decide +kernel
theorem dX5_isBetween_5 : decode cX5_isBetween 5 = Except.ok (Instr.iload_n 0, 1) := by decide +kernel
theorem dX5_isBetween_6 : decode cX5_isBetween 6 = Except.ok (Instr.iload_n 2, 1) := by decide +kernel
theorem dX5_isBetween_7 : decode cX5_isBetween 7 = Except.ok (Instr.if_icmp .gt 7, 3) := by decide +kernel
theorem dX5_isBetween_10 : decode cX5_isBetween 10 = Except.ok (Instr.iconst 1, 1) := by decide +kernel
theorem dX5_isBetween_11 : decode cX5_isBetween 11 = Except.ok (Instr.goto 4, 3) := by decide +kernel
theorem dX5_isBetween_14 : decode cX5_isBetween 14 = Except.ok (Instr.iconst 0, 1) := by decide +kernel
theorem dX5_isBetween_15 : decode cX5_isBetween 15 = Except.ok (Instr.ireturn, 1) := by decide +kernel
theorem dX5_isWithin_0 : decode cX5_isWithin 0 = Except.ok (Instr.lload_n 0, 1) := by decide +kernel
theorem dX5_isWithin_1 : decode cX5_isWithin 1 = Except.ok (Instr.lload_n 2, 1) := by decide +kernel
theorem dX5_isWithin_2 : decode cX5_isWithin 2 = Except.ok (Instr.lneg, 1) := by decide +kernel
theorem dX5_isWithin_3 : decode cX5_isWithin 3 = Except.ok (Instr.lcmp, 1) := by decide +kernel
theorem dX5_isWithin_4 : decode cX5_isWithin 4 = Except.ok (Instr.ifCond .lt 13, 3) := by decide +kernel
theorem dX5_isWithin_7 : decode cX5_isWithin 7 = Except.ok (Instr.lload_n 0, 1) := by decide +kernel
theorem dX5_isWithin_8 : decode cX5_isWithin 8 = Except.ok (Instr.lload_n 2, 1) := by decide +kernel
theorem dX5_isWithin_9 : decode cX5_isWithin 9 = Except.ok (Instr.lcmp, 1) := by decide +kernel
theorem dX5_isWithin_10 : decode cX5_isWithin 10 = Except.ok (Instr.ifCond .gt 7, 3) := by decide +kernel
theorem dX5_isWithin_13 : decode cX5_isWithin 13 = Except.ok (Instr.iconst 1, 1) := by decide +kernel
theorem dX5_isWithin_14 : decode cX5_isWithin 14 = Except.ok (Instr.goto 4, 3) := by decide +kernel
theorem dX5_isWithin_17 : decode cX5_isWithin 17 = Except.ok (Instr.iconst 0, 1) := by decide +kernel
theorem dX5_isWithin_18 : decode cX5_isWithin 18 = Except.ok (Instr.ireturn, 1) := by decide +kernel
theorem dX5_limited_0 : decode cX5_limited 0 = Except.ok (Instr.lload_n 2, 1) := by decide +kernel
theorem dX5_limited_1 : decode cX5_limited 1 = Except.ok (Instr.lneg, 1) := by decide +kernel
theorem dX5_limited_2 : decode cX5_limited 2 = Except.ok (Instr.lload_n 2, 1) := by decide +kernel
theorem dX5_limited_3 : decode cX5_limited 3 = Except.ok (Instr.lload_n 0, 1) := by decide +kernel
theorem dX5_limited_4 : decode cX5_limited 4 = Except.ok (Instr.invokestatic 9, 3) := by decide +kernel
theorem dX5_limited_7 : decode cX5_limited 7 = Except.ok (Instr.invokestatic 15, 3) := by decide +kernel
theorem dX5_limited_10 : decode cX5_limited 10 = Except.ok (Instr.lreturn, 1) := by decide +kernel
theorem dX5_at_0 : decode cX5_at 0 = Except.ok (Instr.iload_n 1, 1) := by decide +kernel
theorem dX5_at_1 : decode cX5_at 1 = Except.ok (Instr.ifCond .lt 15, 3) := by decide +kernel
theorem dX5_at_4 : decode cX5_at 4 = Except.ok (Instr.iload_n 1, 1) := by decide +kernel
theorem dX5_at_5 : decode cX5_at 5 = Except.ok (Instr.aload_n 0, 1) := by decide +kernel
theorem dX5_at_6 : decode cX5_at 6 = Except.ok (Instr.arraylength, 1) := by decide +kernel
theorem dX5_at_7 : decode cX5_at 7 = Except.ok (Instr.if_icmp .ge 9, 3) := by decide +kernel
theorem dX5_at_10 : decode cX5_at 10 = Except.ok (Instr.aload_n 0, 1) := by decide +kernel
theorem dX5_at_11 : decode cX5_at 11 = Except.ok (Instr.iload_n 1, 1) := by decide +kernel
theorem dX5_at_12 : decode cX5_at 12 = Except.ok (Instr.laload, 1) := by decide +kernel
theorem dX5_at_13 : decode cX5_at 13 = Except.ok (Instr.goto 4, 3) := by decide +kernel
theorem dX5_at_16 : decode cX5_at 16 = Except.ok (Instr.lconst 0, 1) := by decide +kernel
theorem dX5_at_17 : decode cX5_at 17 = Except.ok (Instr.lreturn, 1) := by decide +kernel
theorem dX5_cross_0 : decode cX5_cross 0 = Except.ok (Instr.aload_n 2, 1) := by decide +kernel
theorem dX5_cross_1 : decode cX5_cross 1 = Except.ok (Instr.iconst 0, 1) := by decide +kernel
theorem dX5_cross_2 : decode cX5_cross 2 = Except.ok (Instr.aload_n 0, 1) := by decide +kernel
theorem dX5_cross_3 : decode cX5_cross 3 = Except.ok (Instr.iconst 1, 1) := by decide +kernel
theorem dX5_cross_4 : decode cX5_cross 4 = Except.ok (Instr.laload, 1) := by decide +kernel
theorem dX5_cross_5 : decode cX5_cross 5 = Except.ok (Instr.aload_n 1, 1) := by decide +kernel
theorem dX5_cross_6 : decode cX5_cross 6 = Except.ok (Instr.iconst 2, 1) := by decide +kernel
theorem dX5_cross_7 : decode cX5_cross 7 = Except.ok (Instr.laload, 1) := by decide +kernel
theorem dX5_cross_8 : decode cX5_cross 8 = Except.ok (Instr.lmul, 1) := by decide +kernel
theorem dX5_cross_9 : decode cX5_cross 9 = Except.ok (Instr.aload_n 0, 1) := by decide +kernel
theorem dX5_cross_10 : decode cX5_cross 10 = Except.ok (Instr.iconst 2, 1) := by decide +kernel
theorem dX5_cross_11 : decode cX5_cross 11 = Except.ok (Instr.laload, 1) := by decide +kernel
theorem dX5_cross_12 : decode cX5_cross 12 = Except.ok (Instr.aload_n 1, 1) := by decide +kernel
theorem dX5_cross_13 : decode cX5_cross 13 = Except.ok (Instr.iconst 1, 1) := by decide +kernel
theorem dX5_cross_14 : decode cX5_cross 14 = Except.ok (Instr.laload, 1) := by decide +kernel
theorem dX5_cross_15 : decode cX5_cross 15 = Except.ok (Instr.lmul, 1) := by decide +kernel
theorem dX5_cross_16 : decode cX5_cross 16 = Except.ok (Instr.lsub, 1) := by decide +kernel
theorem dX5_cross_17 : decode cX5_cross 17 = Except.ok (Instr.lastore, 1) := by decide +kernel
theorem dX5_cross_18 : decode cX5_cross 18 = Except.ok (Instr.aload_n 2, 1) := by decide +kernel
theorem dX5_cross_19 : decode cX5_cross 19 = Except.ok (Instr.iconst 1, 1) := by decide +kernel
theorem dX5_cross_20 : decode cX5_cross 20 = Except.ok (Instr.aload_n 0, 1) := by decide +kernel
theorem dX5_cross_21 : decode cX5_cross 21 = Except.ok (Instr.iconst 2, 1) := by decide +kernel
theorem dX5_cross_22 : decode cX5_cross 22 = Except.ok (Instr.laload, 1) := by decide +kernel
theorem dX5_cross_23 : decode cX5_cross 23 = Except.ok (Instr.aload_n 1, 1) := by decide +kernel
theorem dX5_cross_24 : decode cX5_cross 24 = Except.ok (Instr.iconst 0, 1) := by decide +kernel
theorem dX5_cross_25 : decode cX5_cross 25 = Except.ok (Instr.laload, 1) := by decide +kernel
theorem dX5_cross_26 : decode cX5_cross 26 = Except.ok (Instr.lmul, 1) := by decide +kernel
theorem dX5_cross_27 : decode cX5_cross 27 = Except.ok (Instr.aload_n 0, 1) := by decide +kernel
theorem dX5_cross_28 : decode cX5_cross 28 = Except.ok (Instr.iconst 0, 1) := by decide +kernel
theorem dX5_cross_29 : decode cX5_cross 29 = Except.ok (Instr.laload, 1) := by decide +kernel
theorem dX5_cross_30 : decode cX5_cross 30 = Except.ok (Instr.aload_n 1, 1) := by decide +kernel
theorem dX5_cross_31 : decode cX5_cross 31 = Except.ok (Instr.iconst 2, 1) := by decide +kernel
theorem dX5_cross_32 : decode cX5_cross 32 = Except.ok (Instr.laload, 1) := by decide +kernel
theorem dX5_cross_33 : decode cX5_cross 33 = Except.ok (Instr.lmul, 1) := by decide +kernel
theorem dX5_cross_34 : decode cX5_cross 34 = Except.ok (Instr.lsub, 1) := by decide +kernel
theorem dX5_cross_35 : decode cX5_cross 35 = Except.ok (Instr.lastore, 1) := by decide +kernel
theorem dX5_cross_36 : decode cX5_cross 36 = Except.ok (Instr.aload_n 2, 1) := by decide +kernel
theorem dX5_cross_37 : decode cX5_cross 37 = Except.ok (Instr.iconst 2, 1) := by decide +kernel
theorem dX5_cross_38 : decode cX5_cross 38 = Except.ok (Instr.aload_n 0, 1) := by decide +kernel
theorem dX5_cross_39 : decode cX5_cross 39 = Except.ok (Instr.iconst 0, 1) := by decide +kernel
theorem dX5_cross_40 : decode cX5_cross 40 = Except.ok (Instr.laload, 1) := by decide +kernel
theorem dX5_cross_41 : decode cX5_cross 41 = Except.ok (Instr.aload_n 1, 1) := by decide +kernel
theorem dX5_cross_42 : decode cX5_cross 42 = Except.ok (Instr.iconst 1, 1) := by decide +kernel
theorem dX5_cross_43 : decode cX5_cross 43 = Except.ok (Instr.laload, 1) := by decide +kernel
theorem dX5_cross_44 : decode cX5_cross 44 = Except.ok (Instr.lmul, 1) := by decide +kernel
theorem dX5_cross_45 : decode cX5_cross 45 = Except.ok (Instr.aload_n 0, 1) := by decide +kernel
theorem dX5_cross_46 : decode cX5_cross 46 = Except.ok (Instr.iconst 1, 1) := by decide +kernel
theorem dX5_cross_47 : decode cX5_cross 47 = Except.ok (Instr.laload, 1) := by decide +kernel
theorem dX5_cross_48 : decode cX5_cross 48 = Except.ok (Instr.aload_n 1, 1) := by decide +kernel
theorem dX5_cross_49 : decode cX5_cross 49 = Except.ok (Instr.iconst 0, 1) := by decide +kernel
theorem dX5_cross_50 : decode cX5_cross 50 = Except.ok (Instr.laload, 1) := by decide +kernel
theorem dX5_cross_51 : decode cX5_cross 51 = Except.ok (Instr.lmul, 1) := by decide +kernel
theorem dX5_cross_52 : decode cX5_cross 52 = Except.ok (Instr.lsub, 1) := by decide +kernel
theorem dX5_cross_53 : decode cX5_cross 53 = Except.ok (Instr.lastore, 1) := by decide +kernel
theorem dX5_cross_54 : decode cX5_cross 54 = Except.ok (Instr.return_, 1) := by decide +kernel
theorem dX5_length_0 : decode cX5_length 0 = Except.ok (Instr.lload_n 0, 1) := by decide +kernel
theorem dX5_length_1 : decode cX5_length 1 = Except.ok (Instr.lload_n 0, 1) := by decide +kernel
theorem dX5_length_2 : decode cX5_length 2 = Except.ok (Instr.lmul, 1) := by decide +kernel
theorem dX5_length_3 : decode cX5_length 3 = Except.ok (Instr.lload_n 2, 1) := by decide +kernel
theorem dX5_length_4 : decode cX5_length 4 = Except.ok (Instr.lload_n 2, 1) := by decide +kernel
theorem dX5_length_5 : decode cX5_length 5 = Except.ok (Instr.lmul, 1) := by decide +kernel
theorem dX5_length_6 : decode cX5_length 6 = Except.ok (Instr.ladd, 1) := by decide +kernel
theorem dX5_length_7 : decode cX5_length 7 = Except.ok (Instr.lload 4, 2) := by decide +kernel
theorem dX5_length_9 : decode cX5_length 9 = Except.ok (Instr.lload 4, 2) := by decide +kernel
theorem dX5_length_11 : decode cX5_length 11 = Except.ok (Instr.lmul, 1) := by decide +kernel
theorem dX5_length_12 : decode cX5_length 12 = Except.ok (Instr.ladd, 1) := by decide +kernel
theorem dX5_length_13 : decode cX5_length 13 = Except.ok (Instr.invokestatic 18, 3) := by decide +kernel
theorem dX5_length_16 : decode cX5_length 16 = Except.ok (Instr.lreturn, 1) := by decide +kernel
theorem dX5_root_0 : decode cX5_root 0 = Except.ok (Instr.lconst 0, 1) := by decide +kernel
theorem dX5_root_1 : decode cX5_root 1 = Except.ok (Instr.lstore_n 2, 1) := by decide +kernel
theorem dX5_root_2 : decode cX5_root 2 = Except.ok (Instr.bipush 30, 2) := by decide +kernel
theorem dX5_root_4 : decode cX5_root 4 = Except.ok (Instr.istore 4, 2) := by decide +kernel
theorem dX5_root_6 : decode cX5_root 6 = Except.ok (Instr.iload 4, 2) := by decide +kernel
theorem dX5_root_8 : decode cX5_root 8 = Except.ok (Instr.ifCond .lt 30, 3) := by decide +kernel
theorem dX5_root_11 : decode cX5_root 11 = Except.ok (Instr.lload_n 2, 1) := by decide +kernel
theorem dX5_root_12 : decode cX5_root 12 = Except.ok (Instr.lconst 1, 1) := by decide +kernel
theorem dX5_root_13 : decode cX5_root 13 = Except.ok (Instr.iload 4, 2) := by decide +kernel
theorem dX5_root_15 : decode cX5_root 15 = Except.ok (Instr.lshl, 1) := by decide +kernel
theorem dX5_root_16 : decode cX5_root 16 = Except.ok (Instr.ladd, 1) := by decide +kernel
theorem dX5_root_17 : decode cX5_root 17 = Except.ok (Instr.lstore 5, 2) := by decide +kernel
theorem dX5_root_19 : decode cX5_root 19 = Except.ok (Instr.lload 5, 2) := by decide +kernel
theorem dX5_root_21 : decode cX5_root 21 = Except.ok (Instr.lload 5, 2) := by decide +kernel
theorem dX5_root_23 : decode cX5_root 23 = Except.ok (Instr.lmul, 1) := by decide +kernel
theorem dX5_root_24 : decode cX5_root 24 = Except.ok (Instr.lload_n 0, 1) := by decide +kernel
theorem dX5_root_25 : decode cX5_root 25 = Except.ok (Instr.lcmp, 1) := by decide +kernel
theorem dX5_root_26 : decode cX5_root 26 = Except.ok (Instr.ifCond .gt 6, 3) := by decide +kernel
theorem dX5_root_29 : decode cX5_root 29 = Except.ok (Instr.lload 5, 2) := by decide +kernel
theorem dX5_root_31 : decode cX5_root 31 = Except.ok (Instr.lstore_n 2, 1) := by decide +kernel
theorem dX5_root_32 : decode cX5_root 32 = Except.ok (Instr.iinc 4 (-1), 3) := by decide +kernel
theorem dX5_root_35 : decode cX5_root 35 = Except.ok (Instr.goto (-29), 3) := by decide +kernel
theorem dX5_root_38 : decode cX5_root 38 = Except.ok (Instr.lload_n 2, 1) := by decide +kernel
theorem dX5_root_39 : decode cX5_root 39 = Except.ok (Instr.lreturn, 1) := by decide +kernel
theorem dX6_init_0 : decode cX6_init 0 = Except.ok (Instr.aload_n 0, 1) := by decide +kernel
theorem dX6_init_1 : decode cX6_init 1 = Except.ok (Instr.invokespecial 3, 3) := by decide +kernel
theorem dX6_init_4 : decode cX6_init 4 = Except.ok (Instr.aload_n 0, 1) := by decide +kernel
theorem dX6_init_5 : decode cX6_init 5 = Except.ok (Instr.bipush 20, 2) := by decide +kernel
theorem dX6_init_7 : decode cX6_init 7 = Except.ok (Instr.newarray .int, 2) := by decide +kernel
theorem dX6_init_9 : decode cX6_init 9 = Except.ok (Instr.putfield 11, 3) := by decide +kernel
theorem dX6_init_12 : decode cX6_init 12 = Except.ok (Instr.aload_n 0, 1) := by decide +kernel
theorem dX6_init_13 : decode cX6_init 13 = Except.ok (Instr.bipush 20, 2) := by decide +kernel
theorem dX6_init_15 : decode cX6_init 15 = Except.ok (Instr.newarray .int, 2) := by decide +kernel
theorem dX6_init_17 : decode cX6_init 17 = Except.ok (Instr.putfield 15, 3) := by decide +kernel
theorem dX6_init_20 : decode cX6_init 20 = Except.ok (Instr.aload_n 0, 1) := by decide +kernel
theorem dX6_init_21 : decode cX6_init 21 = Except.ok (Instr.bipush 20, 2) := by decide +kernel
theorem dX6_init_23 : decode cX6_init 23 = Except.ok (Instr.newarray .int, 2) := by decide +kernel
theorem dX6_init_25 : decode cX6_init 25 = Except.ok (Instr.putfield 18, 3) := by decide +kernel
theorem dX6_init_28 : decode cX6_init 28 = Except.ok (Instr.aload_n 0, 1) := by decide +kernel
theorem dX6_init_29 : decode cX6_init 29 = Except.ok (Instr.bipush 20, 2) := by decide +kernel
theorem dX6_init_31 : decode cX6_init 31 = Except.ok (Instr.newarray .int, 2) := by decide +kernel
theorem dX6_init_33 : decode cX6_init 33 = Except.ok (Instr.putfield 21, 3) := by decide +kernel
theorem dX6_init_36 : decode cX6_init 36 = Except.ok (Instr.return_, 1) := by decide +kernel
theorem dX6_append_0 : decode cX6_append 0 = Except.ok (Instr.aload_n 0, 1) := by decide +kernel
theorem dX6_append_1 : decode cX6_append 1 = Except.ok (Instr.getfield 24, 3) := by decide +kernel
theorem dX6_append_4 : decode cX6_append 4 = Except.ok (Instr.bipush 20, 2) := by decide +kernel
theorem dX6_append_6 : decode cX6_append 6 = Except.ok (Instr.if_icmp .lt 6, 3) := by decide +kernel
theorem dX6_append_9 : decode cX6_append 9 = Except.ok (Instr.bipush (-3), 2) := by decide +kernel
theorem dX6_append_11 : decode cX6_append 11 = Except.ok (Instr.ireturn, 1) := by decide +kernel
theorem dX6_append_12 : decode cX6_append 12 = Except.ok (Instr.aload_n 0, 1) := by decide +kernel
theorem dX6_append_13 : decode cX6_append 13 = Except.ok (Instr.getfield 11, 3) := by decide +kernel
theorem dX6_append_16 : decode cX6_append 16 = Except.ok (Instr.aload_n 0, 1) := by decide +kernel
theorem dX6_append_17 : decode cX6_append 17 = Except.ok (Instr.getfield 24, 3) := by decide +kernel
theorem dX6_append_20 : decode cX6_append 20 = Except.ok (Instr.iload_n 1, 1) := by decide +kernel
theorem dX6_append_21 : decode cX6_append 21 = Except.ok (Instr.iastore, 1) := by decide +kernel
theorem dX6_append_22 : decode cX6_append 22 = Except.ok (Instr.aload_n 0, 1) := by decide +kernel
theorem dX6_append_23 : decode cX6_append 23 = Except.ok (Instr.getfield 15, 3) := by decide +kernel
theorem dX6_append_26 : decode cX6_append 26 = Except.ok (Instr.aload_n 0, 1) := by decide +kernel
theorem dX6_append_27 : decode cX6_append 27 = Except.ok (Instr.getfield 24, 3) := by decide +kernel
theorem dX6_append_30 : decode cX6_append 30 = Except.ok (Instr.iload_n 2, 1) := by decide +kernel
theorem dX6_append_31 : decode cX6_append 31 = Except.ok (Instr.iastore, 1) := by decide +kernel
theorem dX6_append_32 : decode cX6_append 32 = Except.ok (Instr.aload_n 0, 1) := by decide +kernel
theorem dX6_append_33 : decode cX6_append 33 = Except.ok (Instr.getfield 18, 3) := by decide +kernel
theorem dX6_append_36 : decode cX6_append 36 = Except.ok (Instr.aload_n 0, 1) := by decide +kernel
theorem dX6_append_37 : decode cX6_append 37 = Except.ok (Instr.getfield 24, 3) := by decide +kernel
theorem dX6_append_40 : decode cX6_append 40 = Except.ok (Instr.iload_n 3, 1) := by decide +kernel
theorem dX6_append_41 : decode cX6_append 41 = Except.ok (Instr.iastore, 1) := by decide +kernel
theorem dX6_append_42 : decode cX6_append 42 = Except.ok (Instr.aload_n 0, 1) := by decide +kernel
theorem dX6_append_43 : decode cX6_append 43 = Except.ok (Instr.getfield 21, 3) := by decide +kernel
theorem dX6_append_46 : decode cX6_append 46 = Except.ok (Instr.aload_n 0, 1) := by decide +kernel
theorem dX6_append_47 : decode cX6_append 47 = Except.ok (Instr.getfield 24, 3) := by decide +kernel
theorem dX6_append_50 : decode cX6_append 50 = Except.ok (Instr.iload 4, 2) := by decide +kernel
theorem dX6_append_52 : decode cX6_append 52 = Except.ok (Instr.iastore, 1) := by decide +kernel
theorem dX6_append_53 : decode cX6_append 53 = Except.ok (Instr.aload_n 0, 1) := by decide +kernel
theorem dX6_append_54 : decode cX6_append 54 = Except.ok (Instr.dup, 1) := by decide +kernel
theorem dX6_append_55 : decode cX6_append 55 = Except.ok (Instr.getfield 24, 3) := by decide +kernel
theorem dX6_append_58 : decode cX6_append 58 = Except.ok (Instr.iconst 1, 1) := by decide +kernel
theorem dX6_append_59 : decode cX6_append 59 = Except.ok (Instr.iadd, 1) := by decide +kernel
theorem dX6_append_60 : decode cX6_append 60 = Except.ok (Instr.putfield 24, 3) := by decide +kernel
theorem dX6_append_63 : decode cX6_append 63 = Except.ok (Instr.aload_n 0, 1) := by decide +kernel
theorem dX6_append_64 : decode cX6_append 64 = Except.ok (Instr.getfield 24, 3) := by decide +kernel
theorem dX6_append_67 : decode cX6_append 67 = Except.ok (Instr.ireturn, 1) := by decide +kernel
theorem dX6_empty_0 : decode cX6_empty 0 = Except.ok (Instr.aload_n 0, 1) := by decide +kernel
theorem dX6_empty_1 : decode cX6_empty 1 = Except.ok (Instr.getfield 24, 3) := by decide +kernel
theorem dX6_empty_4 : decode cX6_empty 4 = Except.ok (Instr.istore_n 1, 1) := by decide +kernel
theorem dX6_empty_5 : decode cX6_empty 5 = Except.ok (Instr.aload_n 0, 1) := by decide +kernel
theorem dX6_empty_6 : decode cX6_empty 6 = Except.ok (Instr.iconst 0, 1) := by decide +kernel
theorem dX6_empty_7 : decode cX6_empty 7 = Except.ok (Instr.putfield 24, 3) := by decide +kernel
theorem dX6_empty_10 : decode cX6_empty 10 = Except.ok (Instr.iload_n 1, 1) := by decide +kernel
theorem dX6_empty_11 : decode cX6_empty 11 = Except.ok (Instr.ireturn, 1) := by decide +kernel
theorem dX6_ticksLeft_0 : decode cX6_ticksLeft 0 = Except.ok (Instr.iconst 0, 1) := by decide +kernel
theorem dX6_ticksLeft_1 : decode cX6_ticksLeft 1 = Except.ok (Instr.istore_n 1, 1) := by decide +kernel
theorem dX6_ticksLeft_2 : decode cX6_ticksLeft 2 = Except.ok (Instr.iconst 0, 1) := by decide +kernel
theorem dX6_ticksLeft_3 : decode cX6_ticksLeft 3 = Except.ok (Instr.istore_n 2, 1) := by decide +kernel
theorem dX6_ticksLeft_4 : decode cX6_ticksLeft 4 = Except.ok (Instr.iload_n 2, 1) := by decide +kernel
theorem dX6_ticksLeft_5 : decode cX6_ticksLeft 5 = Except.ok (Instr.aload_n 0, 1) := by decide +kernel
theorem dX6_ticksLeft_6 : decode cX6_ticksLeft 6 = Except.ok (Instr.getfield 24, 3) := by decide +kernel
theorem dX6_ticksLeft_9 : decode cX6_ticksLeft 9 = Except.ok (Instr.if_icmp .ge 18, 3) := by decide +kernel
theorem dX6_ticksLeft_12 : decode cX6_ticksLeft 12 = Except.ok (Instr.iload_n 1, 1) := by decide +kernel
theorem dX6_ticksLeft_13 : decode cX6_ticksLeft 13 = Except.ok (Instr.aload_n 0, 1) := by decide +kernel
theorem dX6_ticksLeft_14 : decode cX6_ticksLeft 14 = Except.ok (Instr.getfield 11, 3) := by decide +kernel
theorem dX6_ticksLeft_17 : decode cX6_ticksLeft 17 = Except.ok (Instr.iload_n 2, 1) := by decide +kernel
theorem dX6_ticksLeft_18 : decode cX6_ticksLeft 18 = Except.ok (Instr.iaload, 1) := by decide +kernel
theorem dX6_ticksLeft_19 : decode cX6_ticksLeft 19 = Except.ok (Instr.iadd, 1) := by decide +kernel
theorem dX6_ticksLeft_20 : decode cX6_ticksLeft 20 = Except.ok (Instr.istore_n 1, 1) := by decide +kernel
theorem dX6_ticksLeft_21 : decode cX6_ticksLeft 21 = Except.ok (Instr.iinc 2 1, 3) := by decide +kernel
theorem dX6_ticksLeft_24 : decode cX6_ticksLeft 24 = Except.ok (Instr.goto (-20), 3) := by decide +kernel
theorem dX6_ticksLeft_27 : decode cX6_ticksLeft 27 = Except.ok (Instr.iload_n 1, 1) := by decide +kernel
theorem dX6_ticksLeft_28 : decode cX6_ticksLeft 28 = Except.ok (Instr.ireturn, 1) := by decide +kernel
theorem dX6_takeTick_0 : decode cX6_takeTick 0 = Except.ok (Instr.aload_n 0, 1) := by decide +kernel
theorem dX6_takeTick_1 : decode cX6_takeTick 1 = Except.ok (Instr.getfield 24, 3) := by decide +kernel
theorem dX6_takeTick_4 : decode cX6_takeTick 4 = Except.ok (Instr.ifCond .ne 9, 3) := by decide +kernel
theorem dX6_takeTick_7 : decode cX6_takeTick 7 = Except.ok (Instr.aload_n 1, 1) := by decide +kernel
theorem dX6_takeTick_8 : decode cX6_takeTick 8 = Except.ok (Instr.lconst 0, 1) := by decide +kernel
theorem dX6_takeTick_9 : decode cX6_takeTick 9 = Except.ok (Instr.invokestatic 28, 3) := by decide +kernel
theorem dX6_takeTick_12 : decode cX6_takeTick 12 = Except.ok (Instr.return_, 1) := by decide +kernel
theorem dX6_takeTick_13 : decode cX6_takeTick 13 = Except.ok (Instr.aload_n 1, 1) := by decide +kernel
theorem dX6_takeTick_14 : decode cX6_takeTick 14 = Except.ok (Instr.iconst 0, 1) := by decide +kernel
theorem dX6_takeTick_15 : decode cX6_takeTick 15 = Except.ok (Instr.aload_n 0, 1) := by decide +kernel
theorem dX6_takeTick_16 : decode cX6_takeTick 16 = Except.ok (Instr.getfield 15, 3) := by decide +kernel
theorem dX6_takeTick_19 : decode cX6_takeTick 19 = Except.ok (Instr.iconst 0, 1) := by decide +kernel
theorem dX6_takeTick_20 : decode cX6_takeTick 20 = Except.ok (Instr.iaload, 1) := by decide +kernel
theorem dX6_takeTick_21 : decode cX6_takeTick 21 = Except.ok (Instr.i2l, 1) := by decide +kernel
theorem dX6_takeTick_22 : decode cX6_takeTick 22 = Except.ok (Instr.lastore, 1) := by decide +kernel
theorem dX6_takeTick_23 : decode cX6_takeTick 23 = Except.ok (Instr.aload_n 1, 1) := by decide +kernel
theorem dX6_takeTick_24 : decode cX6_takeTick 24 = Except.ok (Instr.iconst 1, 1) := by decide +kernel
theorem dX6_takeTick_25 : decode cX6_takeTick 25 = Except.ok (Instr.aload_n 0, 1) := by decide +kernel
theorem dX6_takeTick_26 : decode cX6_takeTick 26 = Except.ok (Instr.getfield 18, 3) := by decide +kernel
theorem dX6_takeTick_29 : decode cX6_takeTick 29 = Except.ok (Instr.iconst 0, 1) := by decide +kernel
theorem dX6_takeTick_30 : decode cX6_takeTick 30 = Except.ok (Instr.iaload, 1) := by decide +kernel
theorem dX6_takeTick_31 : decode cX6_takeTick 31 = Except.ok (Instr.i2l, 1) := by decide +kernel
theorem dX6_takeTick_32 : decode cX6_takeTick 32 = Except.ok (Instr.lastore, 1) := by decide +kernel
theorem dX6_takeTick_33 : decode cX6_takeTick 33 = Except.ok (Instr.aload_n 1, 1) := by decide +kernel
theorem dX6_takeTick_34 : decode cX6_takeTick 34 = Except.ok (Instr.iconst 2, 1) := by decide +kernel
theorem dX6_takeTick_35 : decode cX6_takeTick 35 = Except.ok (Instr.aload_n 0, 1) := by decide +kernel
theorem dX6_takeTick_36 : decode cX6_takeTick 36 = Except.ok (Instr.getfield 21, 3) := by decide +kernel
theorem dX6_takeTick_39 : decode cX6_takeTick 39 = Except.ok (Instr.iconst 0, 1) := by decide +kernel
theorem dX6_takeTick_40 : decode cX6_takeTick 40 = Except.ok (Instr.iaload, 1) := by decide +kernel
theorem dX6_takeTick_41 : decode cX6_takeTick 41 = Except.ok (Instr.i2l, 1) := by decide +kernel
theorem dX6_takeTick_42 : decode cX6_takeTick 42 = Except.ok (Instr.lastore, 1) := by decide +kernel
theorem dX6_takeTick_43 : decode cX6_takeTick 43 = Except.ok (Instr.aload_n 0, 1) := by decide +kernel
theorem dX6_takeTick_44 : decode cX6_takeTick 44 = Except.ok (Instr.getfield 11, 3) := by decide +kernel
theorem dX6_takeTick_47 : decode cX6_takeTick 47 = Except.ok (Instr.iconst 0, 1) := by decide +kernel
theorem dX6_takeTick_48 : decode cX6_takeTick 48 = Except.ok (Instr.dup2, 1) := by decide +kernel
theorem dX6_takeTick_49 : decode cX6_takeTick 49 = Except.ok (Instr.iaload, 1) := by decide +kernel
theorem dX6_takeTick_50 : decode cX6_takeTick 50 = Except.ok (Instr.iconst 1, 1) := by decide +kernel
theorem dX6_takeTick_51 : decode cX6_takeTick 51 = Except.ok (Instr.isub, 1) := by decide +kernel
theorem dX6_takeTick_52 : decode cX6_takeTick 52 = Except.ok (Instr.iastore, 1) := by decide +kernel
theorem dX6_takeTick_53 : decode cX6_takeTick 53 = Except.ok (Instr.aload_n 0, 1) := by decide +kernel
theorem dX6_takeTick_54 : decode cX6_takeTick 54 = Except.ok (Instr.getfield 11, 3) := by decide +kernel
theorem dX6_takeTick_57 : decode cX6_takeTick 57 = Except.ok (Instr.iconst 0, 1) := by decide +kernel
theorem dX6_takeTick_58 : decode cX6_takeTick 58 = Except.ok (Instr.iaload, 1) := by decide +kernel
theorem dX6_takeTick_59 : decode cX6_takeTick 59 = Except.ok (Instr.ifCond .ne 7, 3) := by decide +kernel
theorem dX6_takeTick_62 : decode cX6_takeTick 62 = Except.ok (Instr.aload_n 0, 1) := by decide +kernel
theorem dX6_takeTick_63 : decode cX6_takeTick 63 = Except.ok (Instr.invokevirtual 34, 3) := by decide +kernel
theorem dX6_takeTick_66 : decode cX6_takeTick 66 = Except.ok (Instr.return_, 1) := by decide +kernel
theorem dX6_removeFirst_0 : decode cX6_removeFirst 0 = Except.ok (Instr.aload_n 0, 1) := by decide +kernel
theorem dX6_removeFirst_1 : decode cX6_removeFirst 1 = Except.ok (Instr.dup, 1) := by decide +kernel
theorem dX6_removeFirst_2 : decode cX6_removeFirst 2 = Except.ok (Instr.getfield 24, 3) := by decide +kernel
theorem dX6_removeFirst_5 : decode cX6_removeFirst 5 = Except.ok (Instr.iconst 1, 1) := by decide +kernel
theorem dX6_removeFirst_6 : decode cX6_removeFirst 6 = Except.ok (Instr.isub, 1) := by decide +kernel
theorem dX6_removeFirst_7 : decode cX6_removeFirst 7 = Except.ok (Instr.putfield 24, 3) := by decide +kernel
theorem dX6_removeFirst_10 : decode cX6_removeFirst 10 = Except.ok (Instr.aload_n 0, 1) := by decide +kernel
theorem dX6_removeFirst_11 : decode cX6_removeFirst 11 = Except.ok (Instr.getfield 11, 3) := by decide +kernel
theorem dX6_removeFirst_14 : decode cX6_removeFirst 14 = Except.ok (Instr.iconst 1, 1) := by decide +kernel
theorem dX6_removeFirst_15 : decode cX6_removeFirst 15 = Except.ok (Instr.aload_n 0, 1) := by decide +kernel
theorem dX6_removeFirst_16 : decode cX6_removeFirst 16 = Except.ok (Instr.getfield 11, 3) := by decide +kernel
theorem dX6_removeFirst_19 : decode cX6_removeFirst 19 = Except.ok (Instr.iconst 0, 1) := by decide +kernel
theorem dX6_removeFirst_20 : decode cX6_removeFirst 20 = Except.ok (Instr.aload_n 0, 1) := by decide +kernel
theorem dX6_removeFirst_21 : decode cX6_removeFirst 21 = Except.ok (Instr.getfield 24, 3) := by decide +kernel
theorem dX6_removeFirst_24 : decode cX6_removeFirst 24 = Except.ok (Instr.invokestatic 37, 3) := by decide +kernel
theorem dX6_removeFirst_27 : decode cX6_removeFirst 27 = Except.ok (Instr.aload_n 0, 1) := by decide +kernel
theorem dX6_removeFirst_28 : decode cX6_removeFirst 28 = Except.ok (Instr.getfield 15, 3) := by decide +kernel
theorem dX6_removeFirst_31 : decode cX6_removeFirst 31 = Except.ok (Instr.iconst 1, 1) := by decide +kernel
theorem dX6_removeFirst_32 : decode cX6_removeFirst 32 = Except.ok (Instr.aload_n 0, 1) := by decide +kernel
theorem dX6_removeFirst_33 : decode cX6_removeFirst 33 = Except.ok (Instr.getfield 15, 3) := by decide +kernel
theorem dX6_removeFirst_36 : decode cX6_removeFirst 36 = Except.ok (Instr.iconst 0, 1) := by decide +kernel
theorem dX6_removeFirst_37 : decode cX6_removeFirst 37 = Except.ok (Instr.aload_n 0, 1) := by decide +kernel
theorem dX6_removeFirst_38 : decode cX6_removeFirst 38 = Except.ok (Instr.getfield 24, 3) := by decide +kernel
theorem dX6_removeFirst_41 : decode cX6_removeFirst 41 = Except.ok (Instr.invokestatic 37, 3) := by decide +kernel
theorem dX6_removeFirst_44 : decode cX6_removeFirst 44 = Except.ok (Instr.aload_n 0, 1) := by decide +kernel
theorem dX6_removeFirst_45 : decode cX6_removeFirst 45 = Except.ok (Instr.getfield 18, 3) := by decide +kernel
theorem dX6_removeFirst_48 : decode cX6_removeFirst 48 = Except.ok (Instr.iconst 1, 1) := by decide +kernel
theorem dX6_removeFirst_49 : decode cX6_removeFirst 49 = Except.ok (Instr.aload_n 0, 1) := by decide +kernel
theorem dX6_removeFirst_50 : decode cX6_removeFirst 50 = Except.ok (Instr.getfield 18, 3) := by decide +kernel
theorem dX6_removeFirst_53 : decode cX6_removeFirst 53 = Except.ok (Instr.iconst 0, 1) := by decide +kernel
theorem dX6_removeFirst_54 : decode cX6_removeFirst 54 = Except.ok (Instr.aload_n 0, 1) := by decide +kernel
theorem dX6_removeFirst_55 : decode cX6_removeFirst 55 = Except.ok (Instr.getfield 24, 3) := by decide +kernel
theorem dX6_removeFirst_58 : decode cX6_removeFirst 58 = Except.ok (Instr.invokestatic 37, 3) := by decide +kernel
theorem dX6_removeFirst_61 : decode cX6_removeFirst 61 = Except.ok (Instr.aload_n 0, 1) := by decide +kernel
theorem dX6_removeFirst_62 : decode cX6_removeFirst 62 = Except.ok (Instr.getfield 21, 3) := by decide +kernel
theorem dX6_removeFirst_65 : decode cX6_removeFirst 65 = Except.ok (Instr.iconst 1, 1) := by decide +kernel
theorem dX6_removeFirst_66 : decode cX6_removeFirst 66 = Except.ok (Instr.aload_n 0, 1) := by decide +kernel
theorem dX6_removeFirst_67 : decode cX6_removeFirst 67 = Except.ok (Instr.getfield 21, 3) := by decide +kernel
theorem dX6_removeFirst_70 : decode cX6_removeFirst 70 = Except.ok (Instr.iconst 0, 1) := by decide +kernel
theorem dX6_removeFirst_71 : decode cX6_removeFirst 71 = Except.ok (Instr.aload_n 0, 1) := by decide +kernel
theorem dX6_removeFirst_72 : decode cX6_removeFirst 72 = Except.ok (Instr.getfield 24, 3) := by decide +kernel
theorem dX6_removeFirst_75 : decode cX6_removeFirst 75 = Except.ok (Instr.invokestatic 37, 3) := by decide +kernel
theorem dX6_removeFirst_78 : decode cX6_removeFirst 78 = Except.ok (Instr.return_, 1) := by decide +kernel
theorem dX1_init_0 : decode cX1_init 0 = Except.ok (Instr.aload_n 0, 1) := by decide +kernel
theorem dX1_init_1 : decode cX1_init 1 = Except.ok (Instr.invokespecial 3, 3) := by decide +kernel
theorem dX1_init_4 : decode cX1_init 4 = Except.ok (Instr.aload_n 0, 1) := by decide +kernel
theorem dX1_init_5 : decode cX1_init 5 = Except.ok (Instr.bipush 30, 2) := by decide +kernel
theorem dX1_init_7 : decode cX1_init 7 = Except.ok (Instr.newarray .int, 2) := by decide +kernel
theorem dX1_init_9 : decode cX1_init 9 = Except.ok (Instr.putfield 11, 3) := by decide +kernel
theorem dX1_init_12 : decode cX1_init 12 = Except.ok (Instr.aload_n 0, 1) := by decide +kernel
theorem dX1_init_13 : decode cX1_init 13 = Except.ok (Instr.bipush 120, 2) := by decide +kernel
theorem dX1_init_15 : decode cX1_init 15 = Except.ok (Instr.newarray .long, 2) := by decide +kernel
theorem dX1_init_17 : decode cX1_init 17 = Except.ok (Instr.putfield 15, 3) := by decide +kernel
theorem dX1_init_20 : decode cX1_init 20 = Except.ok (Instr.aload_n 0, 1) := by decide +kernel
theorem dX1_init_21 : decode cX1_init 21 = Except.ok (Instr.iconst 4, 1) := by decide +kernel
theorem dX1_init_22 : decode cX1_init 22 = Except.ok (Instr.newarray .long, 2) := by decide +kernel
theorem dX1_init_24 : decode cX1_init 24 = Except.ok (Instr.putfield 19, 3) := by decide +kernel
theorem dX1_init_27 : decode cX1_init 27 = Except.ok (Instr.return_, 1) := by decide +kernel
theorem dX1_placeOf_0 : decode cX1_placeOf 0 = Except.ok (Instr.iconst 0, 1) := by decide +kernel
theorem dX1_placeOf_1 : decode cX1_placeOf 1 = Except.ok (Instr.istore_n 2, 1) := by decide +kernel
theorem dX1_placeOf_2 : decode cX1_placeOf 2 = Except.ok (Instr.iload_n 2, 1) := by decide +kernel
theorem dX1_placeOf_3 : decode cX1_placeOf 3 = Except.ok (Instr.aload_n 0, 1) := by decide +kernel
theorem dX1_placeOf_4 : decode cX1_placeOf 4 = Except.ok (Instr.getfield 22, 3) := by decide +kernel
theorem dX1_placeOf_7 : decode cX1_placeOf 7 = Except.ok (Instr.if_icmp .ge 21, 3) := by decide +kernel
theorem dX1_placeOf_10 : decode cX1_placeOf 10 = Except.ok (Instr.aload_n 0, 1) := by decide +kernel
theorem dX1_placeOf_11 : decode cX1_placeOf 11 = Except.ok (Instr.getfield 11, 3) := by decide +kernel
theorem dX1_placeOf_14 : decode cX1_placeOf 14 = Except.ok (Instr.iload_n 2, 1) := by decide +kernel
theorem dX1_placeOf_15 : decode cX1_placeOf 15 = Except.ok (Instr.iaload, 1) := by decide +kernel
theorem dX1_placeOf_16 : decode cX1_placeOf 16 = Except.ok (Instr.iload_n 1, 1) := by decide +kernel
theorem dX1_placeOf_17 : decode cX1_placeOf 17 = Except.ok (Instr.if_icmp .ne 5, 3) := by decide +kernel
theorem dX1_placeOf_20 : decode cX1_placeOf 20 = Except.ok (Instr.iload_n 2, 1) := by decide +kernel
theorem dX1_placeOf_21 : decode cX1_placeOf 21 = Except.ok (Instr.ireturn, 1) := by decide +kernel
theorem dX1_placeOf_22 : decode cX1_placeOf 22 = Except.ok (Instr.iinc 2 1, 3) := by decide +kernel
theorem dX1_placeOf_25 : decode cX1_placeOf 25 = Except.ok (Instr.goto (-23), 3) := by decide +kernel
theorem dX1_placeOf_28 : decode cX1_placeOf 28 = Except.ok (Instr.iconst (-1), 1) := by decide +kernel
theorem dX1_placeOf_29 : decode cX1_placeOf 29 = Except.ok (Instr.ireturn, 1) := by decide +kernel
theorem dX1_numberAt_0 : decode cX1_numberAt 0 = Except.ok (Instr.iload_n 1, 1) := by decide +kernel
theorem dX1_numberAt_1 : decode cX1_numberAt 1 = Except.ok (Instr.ifCond .lt 20, 3) := by decide +kernel
theorem dX1_numberAt_4 : decode cX1_numberAt 4 = Except.ok (Instr.iload_n 1, 1) := by decide +kernel
theorem dX1_numberAt_5 : decode cX1_numberAt 5 = Except.ok (Instr.aload_n 0, 1) := by decide +kernel
theorem dX1_numberAt_6 : decode cX1_numberAt 6 = Except.ok (Instr.getfield 22, 3) := by decide +kernel
theorem dX1_numberAt_9 : decode cX1_numberAt 9 = Except.ok (Instr.if_icmp .ge 12, 3) := by decide +kernel
theorem dX1_numberAt_12 : decode cX1_numberAt 12 = Except.ok (Instr.aload_n 0, 1) := by decide +kernel
theorem dX1_numberAt_13 : decode cX1_numberAt 13 = Except.ok (Instr.getfield 11, 3) := by decide +kernel
theorem dX1_numberAt_16 : decode cX1_numberAt 16 = Except.ok (Instr.iload_n 1, 1) := by decide +kernel
theorem dX1_numberAt_17 : decode cX1_numberAt 17 = Except.ok (Instr.iaload, 1) := by decide +kernel
theorem dX1_numberAt_18 : decode cX1_numberAt 18 = Except.ok (Instr.goto 4, 3) := by decide +kernel
theorem dX1_numberAt_21 : decode cX1_numberAt 21 = Except.ok (Instr.iconst (-1), 1) := by decide +kernel
theorem dX1_numberAt_22 : decode cX1_numberAt 22 = Except.ok (Instr.ireturn, 1) := by decide +kernel
theorem dX1_put_0 : decode cX1_put 0 = Except.ok (Instr.aload_n 0, 1) := by decide +kernel
theorem dX1_put_1 : decode cX1_put 1 = Except.ok (Instr.iload_n 1, 1) := by decide +kernel
theorem dX1_put_2 : decode cX1_put 2 = Except.ok (Instr.invokevirtual 26, 3) := by decide +kernel
theorem dX1_put_5 : decode cX1_put 5 = Except.ok (Instr.istore_n 3, 1) := by decide +kernel
theorem dX1_put_6 : decode cX1_put 6 = Except.ok (Instr.iload_n 3, 1) := by decide +kernel
theorem dX1_put_7 : decode cX1_put 7 = Except.ok (Instr.iconst (-1), 1) := by decide +kernel
theorem dX1_put_8 : decode cX1_put 8 = Except.ok (Instr.if_icmp .ne 37, 3) := by decide +kernel
theorem dX1_put_11 : decode cX1_put 11 = Except.ok (Instr.aload_n 0, 1) := by decide +kernel
theorem dX1_put_12 : decode cX1_put 12 = Except.ok (Instr.getfield 22, 3) := by decide +kernel
theorem dX1_put_15 : decode cX1_put 15 = Except.ok (Instr.bipush 30, 2) := by decide +kernel
theorem dX1_put_17 : decode cX1_put 17 = Except.ok (Instr.if_icmp .lt 6, 3) := by decide +kernel
theorem dX1_put_20 : decode cX1_put 20 = Except.ok (Instr.bipush (-3), 2) := by decide +kernel
theorem dX1_put_22 : decode cX1_put 22 = Except.ok (Instr.ireturn, 1) := by decide +kernel
theorem dX1_put_23 : decode cX1_put 23 = Except.ok (Instr.aload_n 0, 1) := by decide +kernel
theorem dX1_put_24 : decode cX1_put 24 = Except.ok (Instr.getfield 22, 3) := by decide +kernel
theorem dX1_put_27 : decode cX1_put 27 = Except.ok (Instr.istore_n 3, 1) := by decide +kernel
theorem dX1_put_28 : decode cX1_put 28 = Except.ok (Instr.aload_n 0, 1) := by decide +kernel
theorem dX1_put_29 : decode cX1_put 29 = Except.ok (Instr.getfield 11, 3) := by decide +kernel
theorem dX1_put_32 : decode cX1_put 32 = Except.ok (Instr.iload_n 3, 1) := by decide +kernel
theorem dX1_put_33 : decode cX1_put 33 = Except.ok (Instr.iload_n 1, 1) := by decide +kernel
theorem dX1_put_34 : decode cX1_put 34 = Except.ok (Instr.iastore, 1) := by decide +kernel
theorem dX1_put_35 : decode cX1_put 35 = Except.ok (Instr.aload_n 0, 1) := by decide +kernel
theorem dX1_put_36 : decode cX1_put 36 = Except.ok (Instr.dup, 1) := by decide +kernel
theorem dX1_put_37 : decode cX1_put 37 = Except.ok (Instr.getfield 22, 3) := by decide +kernel
theorem dX1_put_40 : decode cX1_put 40 = Except.ok (Instr.iconst 1, 1) := by decide +kernel
theorem dX1_put_41 : decode cX1_put 41 = Except.ok (Instr.iadd, 1) := by decide +kernel
theorem dX1_put_42 : decode cX1_put 42 = Except.ok (Instr.putfield 22, 3) := by decide +kernel
theorem dX1_put_45 : decode cX1_put 45 = Except.ok (Instr.aload_n 2, 1) := by decide +kernel
theorem dX1_put_46 : decode cX1_put 46 = Except.ok (Instr.getfield 30, 3) := by decide +kernel
theorem dX1_put_49 : decode cX1_put 49 = Except.ok (Instr.iconst 0, 1) := by decide +kernel
theorem dX1_put_50 : decode cX1_put 50 = Except.ok (Instr.aload_n 0, 1) := by decide +kernel
theorem dX1_put_51 : decode cX1_put 51 = Except.ok (Instr.getfield 15, 3) := by decide +kernel
theorem dX1_put_54 : decode cX1_put 54 = Except.ok (Instr.iload_n 3, 1) := by decide +kernel
theorem dX1_put_55 : decode cX1_put 55 = Except.ok (Instr.iconst 4, 1) := by decide +kernel
theorem dX1_put_56 : decode cX1_put 56 = Except.ok (Instr.imul, 1) := by decide +kernel
theorem dX1_put_57 : decode cX1_put 57 = Except.ok (Instr.iconst 4, 1) := by decide +kernel
theorem dX1_put_58 : decode cX1_put 58 = Except.ok (Instr.invokestatic 35, 3) := by decide +kernel
theorem dX1_put_61 : decode cX1_put 61 = Except.ok (Instr.aload_n 0, 1) := by decide +kernel
theorem dX1_put_62 : decode cX1_put 62 = Except.ok (Instr.getfield 22, 3) := by decide +kernel
theorem dX1_put_65 : decode cX1_put 65 = Except.ok (Instr.ireturn, 1) := by decide +kernel
theorem dX1_at_0 : decode cX1_at 0 = Except.ok (Instr.iload_n 1, 1) := by decide +kernel
theorem dX1_at_1 : decode cX1_at 1 = Except.ok (Instr.ifCond .lt 27, 3) := by decide +kernel
theorem dX1_at_4 : decode cX1_at 4 = Except.ok (Instr.iload_n 1, 1) := by decide +kernel
theorem dX1_at_5 : decode cX1_at 5 = Except.ok (Instr.aload_n 0, 1) := by decide +kernel
theorem dX1_at_6 : decode cX1_at 6 = Except.ok (Instr.getfield 22, 3) := by decide +kernel
theorem dX1_at_9 : decode cX1_at 9 = Except.ok (Instr.if_icmp .ge 19, 3) := by decide +kernel
theorem dX1_at_12 : decode cX1_at 12 = Except.ok (Instr.aload_n 0, 1) := by decide +kernel
theorem dX1_at_13 : decode cX1_at 13 = Except.ok (Instr.getfield 15, 3) := by decide +kernel
theorem dX1_at_16 : decode cX1_at 16 = Except.ok (Instr.iload_n 1, 1) := by decide +kernel
theorem dX1_at_17 : decode cX1_at 17 = Except.ok (Instr.iconst 4, 1) := by decide +kernel
theorem dX1_at_18 : decode cX1_at 18 = Except.ok (Instr.imul, 1) := by decide +kernel
theorem dX1_at_19 : decode cX1_at 19 = Except.ok (Instr.aload_n 0, 1) := by decide +kernel
theorem dX1_at_20 : decode cX1_at 20 = Except.ok (Instr.getfield 19, 3) := by decide +kernel
theorem dX1_at_23 : decode cX1_at 23 = Except.ok (Instr.iconst 0, 1) := by decide +kernel
theorem dX1_at_24 : decode cX1_at 24 = Except.ok (Instr.iconst 4, 1) := by decide +kernel
theorem dX1_at_25 : decode cX1_at 25 = Except.ok (Instr.invokestatic 35, 3) := by decide +kernel
theorem dX1_at_28 : decode cX1_at 28 = Except.ok (Instr.aload_n 0, 1) := by decide +kernel
theorem dX1_at_29 : decode cX1_at 29 = Except.ok (Instr.getfield 19, 3) := by decide +kernel
theorem dX1_at_32 : decode cX1_at 32 = Except.ok (Instr.areturn, 1) := by decide +kernel
theorem dX1_remove_0 : decode cX1_remove 0 = Except.ok (Instr.iload_n 1, 1) := by decide +kernel
theorem dX1_remove_1 : decode cX1_remove 1 = Except.ok (Instr.ifCond .lt 68, 3) := by decide +kernel
theorem dX1_remove_4 : decode cX1_remove 4 = Except.ok (Instr.iload_n 1, 1) := by decide +kernel
theorem dX1_remove_5 : decode cX1_remove 5 = Except.ok (Instr.aload_n 0, 1) := by decide +kernel
theorem dX1_remove_6 : decode cX1_remove 6 = Except.ok (Instr.getfield 22, 3) := by decide +kernel
theorem dX1_remove_9 : decode cX1_remove 9 = Except.ok (Instr.if_icmp .ge 60, 3) := by decide +kernel
theorem dX1_remove_12 : decode cX1_remove 12 = Except.ok (Instr.aload_n 0, 1) := by decide +kernel
theorem dX1_remove_13 : decode cX1_remove 13 = Except.ok (Instr.getfield 22, 3) := by decide +kernel
theorem dX1_remove_16 : decode cX1_remove 16 = Except.ok (Instr.iload_n 1, 1) := by decide +kernel
theorem dX1_remove_17 : decode cX1_remove 17 = Except.ok (Instr.isub, 1) := by decide +kernel
theorem dX1_remove_18 : decode cX1_remove 18 = Except.ok (Instr.iconst 1, 1) := by decide +kernel
theorem dX1_remove_19 : decode cX1_remove 19 = Except.ok (Instr.isub, 1) := by decide +kernel
theorem dX1_remove_20 : decode cX1_remove 20 = Except.ok (Instr.istore_n 2, 1) := by decide +kernel
theorem dX1_remove_21 : decode cX1_remove 21 = Except.ok (Instr.aload_n 0, 1) := by decide +kernel
theorem dX1_remove_22 : decode cX1_remove 22 = Except.ok (Instr.getfield 11, 3) := by decide +kernel
theorem dX1_remove_25 : decode cX1_remove 25 = Except.ok (Instr.iload_n 1, 1) := by decide +kernel
theorem dX1_remove_26 : decode cX1_remove 26 = Except.ok (Instr.iconst 1, 1) := by decide +kernel
theorem dX1_remove_27 : decode cX1_remove 27 = Except.ok (Instr.iadd, 1) := by decide +kernel
theorem dX1_remove_28 : decode cX1_remove 28 = Except.ok (Instr.aload_n 0, 1) := by decide +kernel
theorem dX1_remove_29 : decode cX1_remove 29 = Except.ok (Instr.getfield 11, 3) := by decide +kernel
theorem dX1_remove_32 : decode cX1_remove 32 = Except.ok (Instr.iload_n 1, 1) := by decide +kernel
theorem dX1_remove_33 : decode cX1_remove 33 = Except.ok (Instr.iload_n 2, 1) := by decide +kernel
theorem dX1_remove_34 : decode cX1_remove 34 = Except.ok (Instr.invokestatic 35, 3) := by decide +kernel
theorem dX1_remove_37 : decode cX1_remove 37 = Except.ok (Instr.aload_n 0, 1) := by decide +kernel
theorem dX1_remove_38 : decode cX1_remove 38 = Except.ok (Instr.getfield 15, 3) := by decide +kernel
theorem dX1_remove_41 : decode cX1_remove 41 = Except.ok (Instr.iload_n 1, 1) := by decide +kernel
theorem dX1_remove_42 : decode cX1_remove 42 = Except.ok (Instr.iconst 1, 1) := by decide +kernel
theorem dX1_remove_43 : decode cX1_remove 43 = Except.ok (Instr.iadd, 1) := by decide +kernel
theorem dX1_remove_44 : decode cX1_remove 44 = Except.ok (Instr.iconst 4, 1) := by decide +kernel
theorem dX1_remove_45 : decode cX1_remove 45 = Except.ok (Instr.imul, 1) := by decide +kernel
theorem dX1_remove_46 : decode cX1_remove 46 = Except.ok (Instr.aload_n 0, 1) := by decide +kernel
theorem dX1_remove_47 : decode cX1_remove 47 = Except.ok (Instr.getfield 15, 3) := by decide +kernel
theorem dX1_remove_50 : decode cX1_remove 50 = Except.ok (Instr.iload_n 1, 1) := by decide +kernel
theorem dX1_remove_51 : decode cX1_remove 51 = Except.ok (Instr.iconst 4, 1) := by decide +kernel
theorem dX1_remove_52 : decode cX1_remove 52 = Except.ok (Instr.imul, 1) := by decide +kernel
theorem dX1_remove_53 : decode cX1_remove 53 = Except.ok (Instr.iload_n 2, 1) := by decide +kernel
theorem dX1_remove_54 : decode cX1_remove 54 = Except.ok (Instr.iconst 4, 1) := by decide +kernel
theorem dX1_remove_55 : decode cX1_remove 55 = Except.ok (Instr.imul, 1) := by decide +kernel
theorem dX1_remove_56 : decode cX1_remove 56 = Except.ok (Instr.invokestatic 35, 3) := by decide +kernel
theorem dX1_remove_59 : decode cX1_remove 59 = Except.ok (Instr.aload_n 0, 1) := by decide +kernel
theorem dX1_remove_60 : decode cX1_remove 60 = Except.ok (Instr.dup, 1) := by decide +kernel
theorem dX1_remove_61 : decode cX1_remove 61 = Except.ok (Instr.getfield 22, 3) := by decide +kernel
theorem dX1_remove_64 : decode cX1_remove 64 = Except.ok (Instr.iconst 1, 1) := by decide +kernel
theorem dX1_remove_65 : decode cX1_remove 65 = Except.ok (Instr.isub, 1) := by decide +kernel
theorem dX1_remove_66 : decode cX1_remove 66 = Except.ok (Instr.putfield 22, 3) := by decide +kernel
theorem dX1_remove_69 : decode cX1_remove 69 = Except.ok (Instr.aload_n 0, 1) := by decide +kernel
theorem dX1_remove_70 : decode cX1_remove 70 = Except.ok (Instr.getfield 22, 3) := by decide +kernel
theorem dX1_remove_73 : decode cX1_remove 73 = Except.ok (Instr.ireturn, 1) := by decide +kernel
theorem dX1_empty_0 : decode cX1_empty 0 = Except.ok (Instr.aload_n 0, 1) := by decide +kernel
theorem dX1_empty_1 : decode cX1_empty 1 = Except.ok (Instr.iconst 0, 1) := by decide +kernel
theorem dX1_empty_2 : decode cX1_empty 2 = Except.ok (Instr.putfield 22, 3) := by decide +kernel
theorem dX1_empty_5 : decode cX1_empty 5 = Except.ok (Instr.return_, 1) := by decide +kernel
theorem dX2_init_0 : decode cX2_init 0 = Except.ok (Instr.aload_n 0, 1) := by decide +kernel
theorem dX2_init_1 : decode cX2_init 1 = Except.ok (Instr.invokespecial 3, 3) := by decide +kernel
theorem dX2_init_4 : decode cX2_init 4 = Except.ok (Instr.aload_n 0, 1) := by decide +kernel
theorem dX2_init_5 : decode cX2_init 5 = Except.ok (Instr.iconst 3, 1) := by decide +kernel
theorem dX2_init_6 : decode cX2_init 6 = Except.ok (Instr.newarray .long, 2) := by decide +kernel
theorem dX2_init_8 : decode cX2_init 8 = Except.ok (Instr.putfield 9, 3) := by decide +kernel
theorem dX2_init_11 : decode cX2_init 11 = Except.ok (Instr.return_, 1) := by decide +kernel
theorem dX2_isRunning_0 : decode cX2_isRunning 0 = Except.ok (Instr.aload_n 0, 1) := by decide +kernel
theorem dX2_isRunning_1 : decode cX2_isRunning 1 = Except.ok (Instr.getfield 15, 3) := by decide +kernel
theorem dX2_isRunning_4 : decode cX2_isRunning 4 = Except.ok (Instr.ifCond .le 7, 3) := by decide +kernel
theorem dX2_isRunning_7 : decode cX2_isRunning 7 = Except.ok (Instr.iconst 1, 1) := by decide +kernel
theorem dX2_isRunning_8 : decode cX2_isRunning 8 = Except.ok (Instr.goto 4, 3) := by decide +kernel
theorem dX2_isRunning_11 : decode cX2_isRunning 11 = Except.ok (Instr.iconst 0, 1) := by decide +kernel
theorem dX2_isRunning_12 : decode cX2_isRunning 12 = Except.ok (Instr.ireturn, 1) := by decide +kernel
theorem dX2_start_0 : decode cX2_start 0 = Except.ok (Instr.aload_n 0, 1) := by decide +kernel
theorem dX2_start_1 : decode cX2_start 1 = Except.ok (Instr.getfield 9, 3) := by decide +kernel
theorem dX2_start_4 : decode cX2_start 4 = Except.ok (Instr.lconst 0, 1) := by decide +kernel
theorem dX2_start_5 : decode cX2_start 5 = Except.ok (Instr.invokestatic 19, 3) := by decide +kernel
theorem dX2_start_8 : decode cX2_start 8 = Except.ok (Instr.aload_n 0, 1) := by decide +kernel
theorem dX2_start_9 : decode cX2_start 9 = Except.ok (Instr.iload_n 1, 1) := by decide +kernel
theorem dX2_start_10 : decode cX2_start 10 = Except.ok (Instr.putfield 25, 3) := by decide +kernel
theorem dX2_start_13 : decode cX2_start 13 = Except.ok (Instr.aload_n 0, 1) := by decide +kernel
theorem dX2_start_14 : decode cX2_start 14 = Except.ok (Instr.iload_n 1, 1) := by decide +kernel
theorem dX2_start_15 : decode cX2_start 15 = Except.ok (Instr.putfield 15, 3) := by decide +kernel
theorem dX2_start_18 : decode cX2_start 18 = Except.ok (Instr.return_, 1) := by decide +kernel
theorem dX2_stop_0 : decode cX2_stop 0 = Except.ok (Instr.aload_n 0, 1) := by decide +kernel
theorem dX2_stop_1 : decode cX2_stop 1 = Except.ok (Instr.iconst 0, 1) := by decide +kernel
theorem dX2_stop_2 : decode cX2_stop 2 = Except.ok (Instr.putfield 25, 3) := by decide +kernel
theorem dX2_stop_5 : decode cX2_stop 5 = Except.ok (Instr.aload_n 0, 1) := by decide +kernel
theorem dX2_stop_6 : decode cX2_stop 6 = Except.ok (Instr.iconst 0, 1) := by decide +kernel
theorem dX2_stop_7 : decode cX2_stop 7 = Except.ok (Instr.putfield 15, 3) := by decide +kernel
theorem dX2_stop_10 : decode cX2_stop 10 = Except.ok (Instr.return_, 1) := by decide +kernel
theorem dX2_add_0 : decode cX2_add 0 = Except.ok (Instr.aload_n 0, 1) := by decide +kernel
theorem dX2_add_1 : decode cX2_add 1 = Except.ok (Instr.invokevirtual 28, 3) := by decide +kernel
theorem dX2_add_4 : decode cX2_add 4 = Except.ok (Instr.ifCond .eq 20, 3) := by decide +kernel
theorem dX2_add_7 : decode cX2_add 7 = Except.ok (Instr.iload_n 1, 1) := by decide +kernel
theorem dX2_add_8 : decode cX2_add 8 = Except.ok (Instr.invokestatic 32, 3) := by decide +kernel
theorem dX2_add_11 : decode cX2_add 11 = Except.ok (Instr.ifCond .eq 13, 3) := by decide +kernel
theorem dX2_add_14 : decode cX2_add 14 = Except.ok (Instr.aload_n 0, 1) := by decide +kernel
theorem dX2_add_15 : decode cX2_add 15 = Except.ok (Instr.getfield 9, 3) := by decide +kernel
theorem dX2_add_18 : decode cX2_add 18 = Except.ok (Instr.iload_n 1, 1) := by decide +kernel
theorem dX2_add_19 : decode cX2_add 19 = Except.ok (Instr.dup2, 1) := by decide +kernel
theorem dX2_add_20 : decode cX2_add 20 = Except.ok (Instr.laload, 1) := by decide +kernel
theorem dX2_add_21 : decode cX2_add 21 = Except.ok (Instr.lload_n 2, 1) := by decide +kernel
theorem dX2_add_22 : decode cX2_add 22 = Except.ok (Instr.ladd, 1) := by decide +kernel
theorem dX2_add_23 : decode cX2_add 23 = Except.ok (Instr.lastore, 1) := by decide +kernel
theorem dX2_add_24 : decode cX2_add 24 = Except.ok (Instr.return_, 1) := by decide +kernel
theorem dX2_endsWithThisTick_0 : decode cX2_endsWithThisTick 0 = Except.ok (Instr.aload_n 0, 1) := by decide +kernel
theorem dX2_endsWithThisTick_1 : decode cX2_endsWithThisTick 1 = Except.ok (Instr.invokevirtual 28, 3) := by decide +kernel
theorem dX2_endsWithThisTick_4 : decode cX2_endsWithThisTick 4 = Except.ok (Instr.ifCond .ne 5, 3) := by decide +kernel
theorem dX2_endsWithThisTick_7 : decode cX2_endsWithThisTick 7 = Except.ok (Instr.iconst 0, 1) := by decide +kernel
theorem dX2_endsWithThisTick_8 : decode cX2_endsWithThisTick 8 = Except.ok (Instr.ireturn, 1) := by decide +kernel
theorem dX2_endsWithThisTick_9 : decode cX2_endsWithThisTick 9 = Except.ok (Instr.aload_n 0, 1) := by decide +kernel
theorem dX2_endsWithThisTick_10 : decode cX2_endsWithThisTick 10 = Except.ok (Instr.dup, 1) := by decide +kernel
theorem dX2_endsWithThisTick_11 : decode cX2_endsWithThisTick 11 = Except.ok (Instr.getfield 15, 3) := by decide +kernel
theorem dX2_endsWithThisTick_14 : decode cX2_endsWithThisTick 14 = Except.ok (Instr.iconst 1, 1) := by decide +kernel
theorem dX2_endsWithThisTick_15 : decode cX2_endsWithThisTick 15 = Except.ok (Instr.isub, 1) := by decide +kernel
theorem dX2_endsWithThisTick_16 : decode cX2_endsWithThisTick 16 = Except.ok (Instr.putfield 15, 3) := by decide +kernel
theorem dX2_endsWithThisTick_19 : decode cX2_endsWithThisTick 19 = Except.ok (Instr.aload_n 0, 1) := by decide +kernel
theorem dX2_endsWithThisTick_20 : decode cX2_endsWithThisTick 20 = Except.ok (Instr.getfield 15, 3) := by decide +kernel
theorem dX2_endsWithThisTick_23 : decode cX2_endsWithThisTick 23 = Except.ok (Instr.ifCond .ne 7, 3) := by decide +kernel
theorem dX2_endsWithThisTick_26 : decode cX2_endsWithThisTick 26 = Except.ok (Instr.iconst 1, 1) := by decide +kernel
theorem dX2_endsWithThisTick_27 : decode cX2_endsWithThisTick 27 = Except.ok (Instr.goto 4, 3) := by decide +kernel
theorem dX2_endsWithThisTick_30 : decode cX2_endsWithThisTick 30 = Except.ok (Instr.iconst 0, 1) := by decide +kernel
theorem dX2_endsWithThisTick_31 : decode cX2_endsWithThisTick 31 = Except.ok (Instr.ireturn, 1) := by decide +kernel
theorem dX2_mean_0 : decode cX2_mean 0 = Except.ok (Instr.aload_n 0, 1) := by decide +kernel
theorem dX2_mean_1 : decode cX2_mean 1 = Except.ok (Instr.getfield 25, 3) := by decide +kernel
theorem dX2_mean_4 : decode cX2_mean 4 = Except.ok (Instr.ifCond .le 10, 3) := by decide +kernel
theorem dX2_mean_7 : decode cX2_mean 7 = Except.ok (Instr.iload_n 1, 1) := by decide +kernel
theorem dX2_mean_8 : decode cX2_mean 8 = Except.ok (Instr.invokestatic 32, 3) := by decide +kernel
theorem dX2_mean_11 : decode cX2_mean 11 = Except.ok (Instr.ifCond .ne 5, 3) := by decide +kernel
theorem dX2_mean_14 : decode cX2_mean 14 = Except.ok (Instr.lconst 0, 1) := by decide +kernel
theorem dX2_mean_15 : decode cX2_mean 15 = Except.ok (Instr.lreturn, 1) := by decide +kernel
theorem dX2_mean_16 : decode cX2_mean 16 = Except.ok (Instr.aload_n 0, 1) := by decide +kernel
theorem dX2_mean_17 : decode cX2_mean 17 = Except.ok (Instr.getfield 9, 3) := by decide +kernel
theorem dX2_mean_20 : decode cX2_mean 20 = Except.ok (Instr.iload_n 1, 1) := by decide +kernel
theorem dX2_mean_21 : decode cX2_mean 21 = Except.ok (Instr.laload, 1) := by decide +kernel
theorem dX2_mean_22 : decode cX2_mean 22 = Except.ok (Instr.aload_n 0, 1) := by decide +kernel
theorem dX2_mean_23 : decode cX2_mean 23 = Except.ok (Instr.getfield 25, 3) := by decide +kernel
theorem dX2_mean_26 : decode cX2_mean 26 = Except.ok (Instr.i2l, 1) := by decide +kernel
theorem dX2_mean_27 : decode cX2_mean 27 = Except.ok (Instr.invokestatic 38, 3) := by decide +kernel
theorem dX2_mean_30 : decode cX2_mean 30 = Except.ok (Instr.lreturn, 1) := by decide +kernel
theorem dX3_init_0 : decode cX3_init 0 = Except.ok (Instr.aload_n 0, 1) := by decide +kernel
theorem dX3_init_1 : decode cX3_init 1 = Except.ok (Instr.invokespecial 3, 3) := by decide +kernel
theorem dX3_init_4 : decode cX3_init 4 = Except.ok (Instr.aload_n 0, 1) := by decide +kernel
theorem dX3_init_5 : decode cX3_init 5 = Except.ok (Instr.bipush 39, 2) := by decide +kernel
theorem dX3_init_7 : decode cX3_init 7 = Except.ok (Instr.newarray .int, 2) := by decide +kernel
theorem dX3_init_9 : decode cX3_init 9 = Except.ok (Instr.putfield 11, 3) := by decide +kernel
theorem dX3_init_12 : decode cX3_init 12 = Except.ok (Instr.aload_n 0, 1) := by decide +kernel
theorem dX3_init_13 : decode cX3_init 13 = Except.ok (Instr.bipush 39, 2) := by decide +kernel
theorem dX3_init_15 : decode cX3_init 15 = Except.ok (Instr.newarray .boolean, 2) := by decide +kernel
theorem dX3_init_17 : decode cX3_init 17 = Except.ok (Instr.putfield 15, 3) := by decide +kernel
theorem dX3_init_20 : decode cX3_init 20 = Except.ok (Instr.return_, 1) := by decide +kernel
theorem dX3_hasBin_0 : decode cX3_hasBin 0 = Except.ok (Instr.iload_n 0, 1) := by decide +kernel
theorem dX3_hasBin_1 : decode cX3_hasBin 1 = Except.ok (Instr.bipush (-4), 2) := by decide +kernel
theorem dX3_hasBin_3 : decode cX3_hasBin 3 = Except.ok (Instr.if_icmp .lt 13, 3) := by decide +kernel
theorem dX3_hasBin_6 : decode cX3_hasBin 6 = Except.ok (Instr.iload_n 0, 1) := by decide +kernel
theorem dX3_hasBin_7 : decode cX3_hasBin 7 = Except.ok (Instr.bipush 9, 2) := by decide +kernel
theorem dX3_hasBin_9 : decode cX3_hasBin 9 = Except.ok (Instr.if_icmp .ge 7, 3) := by decide +kernel
theorem dX3_hasBin_12 : decode cX3_hasBin 12 = Except.ok (Instr.iconst 1, 1) := by decide +kernel
theorem dX3_hasBin_13 : decode cX3_hasBin 13 = Except.ok (Instr.goto 4, 3) := by decide +kernel
theorem dX3_hasBin_16 : decode cX3_hasBin 16 = Except.ok (Instr.iconst 0, 1) := by decide +kernel
theorem dX3_hasBin_17 : decode cX3_hasBin 17 = Except.ok (Instr.ireturn, 1) := by decide +kernel
theorem dX3_column_0 : decode cX3_column 0 = Except.ok (Instr.iload_n 0, 1) := by decide +kernel
theorem dX3_column_1 : decode cX3_column 1 = Except.ok (Instr.bipush (-4), 2) := by decide +kernel
theorem dX3_column_3 : decode cX3_column 3 = Except.ok (Instr.isub, 1) := by decide +kernel
theorem dX3_column_4 : decode cX3_column 4 = Except.ok (Instr.ireturn, 1) := by decide +kernel
theorem dX3_placeOf_0 : decode cX3_placeOf 0 = Except.ok (Instr.iload_n 0, 1) := by decide +kernel
theorem dX3_placeOf_1 : decode cX3_placeOf 1 = Except.ok (Instr.invokestatic 19, 3) := by decide +kernel
theorem dX3_placeOf_4 : decode cX3_placeOf 4 = Except.ok (Instr.ifCond .eq 22, 3) := by decide +kernel
theorem dX3_placeOf_7 : decode cX3_placeOf 7 = Except.ok (Instr.iload_n 1, 1) := by decide +kernel
theorem dX3_placeOf_8 : decode cX3_placeOf 8 = Except.ok (Instr.invokestatic 25, 3) := by decide +kernel
theorem dX3_placeOf_11 : decode cX3_placeOf 11 = Except.ok (Instr.ifCond .eq 15, 3) := by decide +kernel
theorem dX3_placeOf_14 : decode cX3_placeOf 14 = Except.ok (Instr.iload_n 0, 1) := by decide +kernel
theorem dX3_placeOf_15 : decode cX3_placeOf 15 = Except.ok (Instr.bipush 13, 2) := by decide +kernel
theorem dX3_placeOf_17 : decode cX3_placeOf 17 = Except.ok (Instr.imul, 1) := by decide +kernel
theorem dX3_placeOf_18 : decode cX3_placeOf 18 = Except.ok (Instr.iload_n 1, 1) := by decide +kernel
theorem dX3_placeOf_19 : decode cX3_placeOf 19 = Except.ok (Instr.invokestatic 28, 3) := by decide +kernel
theorem dX3_placeOf_22 : decode cX3_placeOf 22 = Except.ok (Instr.iadd, 1) := by decide +kernel
theorem dX3_placeOf_23 : decode cX3_placeOf 23 = Except.ok (Instr.goto 4, 3) := by decide +kernel
theorem dX3_placeOf_26 : decode cX3_placeOf 26 = Except.ok (Instr.iconst (-1), 1) := by decide +kernel
theorem dX3_placeOf_27 : decode cX3_placeOf 27 = Except.ok (Instr.ireturn, 1) := by decide +kernel
theorem dX3_put_0 : decode cX3_put 0 = Except.ok (Instr.iload_n 1, 1) := by decide +kernel
theorem dX3_put_1 : decode cX3_put 1 = Except.ok (Instr.iload_n 2, 1) := by decide +kernel
theorem dX3_put_2 : decode cX3_put 2 = Except.ok (Instr.invokestatic 32, 3) := by decide +kernel
theorem dX3_put_5 : decode cX3_put 5 = Except.ok (Instr.istore 4, 2) := by decide +kernel
theorem dX3_put_7 : decode cX3_put 7 = Except.ok (Instr.iload 4, 2) := by decide +kernel
theorem dX3_put_9 : decode cX3_put 9 = Except.ok (Instr.iconst (-1), 1) := by decide +kernel
theorem dX3_put_10 : decode cX3_put 10 = Except.ok (Instr.if_icmp .ne 4, 3) := by decide +kernel
theorem dX3_put_13 : decode cX3_put 13 = Except.ok (Instr.return_, 1) := by decide +kernel
theorem dX3_put_14 : decode cX3_put 14 = Except.ok (Instr.aload_n 0, 1) := by decide +kernel
theorem dX3_put_15 : decode cX3_put 15 = Except.ok (Instr.getfield 11, 3) := by decide +kernel
theorem dX3_put_18 : decode cX3_put 18 = Except.ok (Instr.iload 4, 2) := by decide +kernel
theorem dX3_put_20 : decode cX3_put 20 = Except.ok (Instr.iload_n 3, 1) := by decide +kernel
theorem dX3_put_21 : decode cX3_put 21 = Except.ok (Instr.iastore, 1) := by decide +kernel
theorem dX3_put_22 : decode cX3_put 22 = Except.ok (Instr.aload_n 0, 1) := by decide +kernel
theorem dX3_put_23 : decode cX3_put 23 = Except.ok (Instr.getfield 15, 3) := by decide +kernel
theorem dX3_put_26 : decode cX3_put 26 = Except.ok (Instr.iload 4, 2) := by decide +kernel
theorem dX3_put_28 : decode cX3_put 28 = Except.ok (Instr.baload, 1) := by decide +kernel
theorem dX3_put_29 : decode cX3_put 29 = Except.ok (Instr.ifCond .ne 21, 3) := by decide +kernel
theorem dX3_put_32 : decode cX3_put 32 = Except.ok (Instr.aload_n 0, 1) := by decide +kernel
theorem dX3_put_33 : decode cX3_put 33 = Except.ok (Instr.getfield 15, 3) := by decide +kernel
theorem dX3_put_36 : decode cX3_put 36 = Except.ok (Instr.iload 4, 2) := by decide +kernel
theorem dX3_put_38 : decode cX3_put 38 = Except.ok (Instr.iconst 1, 1) := by decide +kernel
theorem dX3_put_39 : decode cX3_put 39 = Except.ok (Instr.bastore, 1) := by decide +kernel
theorem dX3_put_40 : decode cX3_put 40 = Except.ok (Instr.aload_n 0, 1) := by decide +kernel
theorem dX3_put_41 : decode cX3_put 41 = Except.ok (Instr.dup, 1) := by decide +kernel
theorem dX3_put_42 : decode cX3_put 42 = Except.ok (Instr.getfield 36, 3) := by decide +kernel
theorem dX3_put_45 : decode cX3_put 45 = Except.ok (Instr.iconst 1, 1) := by decide +kernel
theorem dX3_put_46 : decode cX3_put 46 = Except.ok (Instr.iadd, 1) := by decide +kernel
theorem dX3_put_47 : decode cX3_put 47 = Except.ok (Instr.putfield 36, 3) := by decide +kernel
theorem dX3_put_50 : decode cX3_put 50 = Except.ok (Instr.return_, 1) := by decide +kernel
theorem dX3_value_0 : decode cX3_value 0 = Except.ok (Instr.iload_n 1, 1) := by decide +kernel
theorem dX3_value_1 : decode cX3_value 1 = Except.ok (Instr.iload_n 2, 1) := by decide +kernel
theorem dX3_value_2 : decode cX3_value 2 = Except.ok (Instr.invokestatic 32, 3) := by decide +kernel
theorem dX3_value_5 : decode cX3_value 5 = Except.ok (Instr.istore_n 3, 1) := by decide +kernel
theorem dX3_value_6 : decode cX3_value 6 = Except.ok (Instr.iload_n 3, 1) := by decide +kernel
theorem dX3_value_7 : decode cX3_value 7 = Except.ok (Instr.iconst (-1), 1) := by decide +kernel
theorem dX3_value_8 : decode cX3_value 8 = Except.ok (Instr.if_icmp .ne 7, 3) := by decide +kernel
theorem dX3_value_11 : decode cX3_value 11 = Except.ok (Instr.iconst 0, 1) := by decide +kernel
theorem dX3_value_12 : decode cX3_value 12 = Except.ok (Instr.goto 9, 3) := by decide +kernel
theorem dX3_value_15 : decode cX3_value 15 = Except.ok (Instr.aload_n 0, 1) := by decide +kernel
theorem dX3_value_16 : decode cX3_value 16 = Except.ok (Instr.getfield 11, 3) := by decide +kernel
theorem dX3_value_19 : decode cX3_value 19 = Except.ok (Instr.iload_n 3, 1) := by decide +kernel
theorem dX3_value_20 : decode cX3_value 20 = Except.ok (Instr.iaload, 1) := by decide +kernel
theorem dX3_value_21 : decode cX3_value 21 = Except.ok (Instr.ireturn, 1) := by decide +kernel
theorem dX3_absorb_0 : decode cX3_absorb 0 = Except.ok (Instr.iconst 0, 1) := by decide +kernel
theorem dX3_absorb_1 : decode cX3_absorb 1 = Except.ok (Instr.istore_n 3, 1) := by decide +kernel
theorem dX3_absorb_2 : decode cX3_absorb 2 = Except.ok (Instr.iload_n 3, 1) := by decide +kernel
theorem dX3_absorb_3 : decode cX3_absorb 3 = Except.ok (Instr.iconst 3, 1) := by decide +kernel
theorem dX3_absorb_4 : decode cX3_absorb 4 = Except.ok (Instr.if_icmp .ge 37, 3) := by decide +kernel
theorem dX3_absorb_7 : decode cX3_absorb 7 = Except.ok (Instr.aload_n 0, 1) := by decide +kernel
theorem dX3_absorb_8 : decode cX3_absorb 8 = Except.ok (Instr.iload_n 3, 1) := by decide +kernel
theorem dX3_absorb_9 : decode cX3_absorb 9 = Except.ok (Instr.iload_n 2, 1) := by decide +kernel
theorem dX3_absorb_10 : decode cX3_absorb 10 = Except.ok (Instr.aload_n 0, 1) := by decide +kernel
theorem dX3_absorb_11 : decode cX3_absorb 11 = Except.ok (Instr.iload_n 3, 1) := by decide +kernel
theorem dX3_absorb_12 : decode cX3_absorb 12 = Except.ok (Instr.iload_n 2, 1) := by decide +kernel
theorem dX3_absorb_13 : decode cX3_absorb 13 = Except.ok (Instr.invokevirtual 40, 3) := by decide +kernel
theorem dX3_absorb_16 : decode cX3_absorb 16 = Except.ok (Instr.i2l, 1) := by decide +kernel
theorem dX3_absorb_17 : decode cX3_absorb 17 = Except.ok (Instr.aload_n 1, 1) := by decide +kernel
theorem dX3_absorb_18 : decode cX3_absorb 18 = Except.ok (Instr.iload_n 3, 1) := by decide +kernel
theorem dX3_absorb_19 : decode cX3_absorb 19 = Except.ok (Instr.laload, 1) := by decide +kernel
theorem dX3_absorb_20 : decode cX3_absorb 20 = Except.ok (Instr.ladd, 1) := by decide +kernel
theorem dX3_absorb_21 : decode cX3_absorb 21 = Except.ok (Instr.ldc2_w 43, 3) := by decide +kernel
theorem dX3_absorb_24 : decode cX3_absorb 24 = Except.ok (Instr.invokestatic 45, 3) := by decide +kernel
theorem dX3_absorb_27 : decode cX3_absorb 27 = Except.ok (Instr.l2i, 1) := by decide +kernel
theorem dX3_absorb_28 : decode cX3_absorb 28 = Except.ok (Instr.invokevirtual 49, 3) := by decide +kernel
theorem dX3_absorb_31 : decode cX3_absorb 31 = Except.ok (Instr.aload_n 1, 1) := by decide +kernel
theorem dX3_absorb_32 : decode cX3_absorb 32 = Except.ok (Instr.iload_n 3, 1) := by decide +kernel
theorem dX3_absorb_33 : decode cX3_absorb 33 = Except.ok (Instr.lconst 0, 1) := by decide +kernel
theorem dX3_absorb_34 : decode cX3_absorb 34 = Except.ok (Instr.lastore, 1) := by decide +kernel
theorem dX3_absorb_35 : decode cX3_absorb 35 = Except.ok (Instr.iinc 3 1, 3) := by decide +kernel
theorem dX3_absorb_38 : decode cX3_absorb 38 = Except.ok (Instr.goto (-36), 3) := by decide +kernel
theorem dX3_absorb_41 : decode cX3_absorb 41 = Except.ok (Instr.return_, 1) := by decide +kernel
theorem dX3_removeBin_0 : decode cX3_removeBin 0 = Except.ok (Instr.aload_n 0, 1) := by decide +kernel
theorem dX3_removeBin_1 : decode cX3_removeBin 1 = Except.ok (Instr.getfield 36, 3) := by decide +kernel
theorem dX3_removeBin_4 : decode cX3_removeBin 4 = Except.ok (Instr.istore_n 2, 1) := by decide +kernel
theorem dX3_removeBin_5 : decode cX3_removeBin 5 = Except.ok (Instr.iconst 0, 1) := by decide +kernel
theorem dX3_removeBin_6 : decode cX3_removeBin 6 = Except.ok (Instr.istore_n 3, 1) := by decide +kernel
theorem dX3_removeBin_7 : decode cX3_removeBin 7 = Except.ok (Instr.iload_n 3, 1) := by decide +kernel
theorem dX3_removeBin_8 : decode cX3_removeBin 8 = Except.ok (Instr.iconst 3, 1) := by decide +kernel
theorem dX3_removeBin_9 : decode cX3_removeBin 9 = Except.ok (Instr.if_icmp .ge 58, 3) := by decide +kernel
theorem dX3_removeBin_12 : decode cX3_removeBin 12 = Except.ok (Instr.iload_n 3, 1) := by decide +kernel
theorem dX3_removeBin_13 : decode cX3_removeBin 13 = Except.ok (Instr.iload_n 1, 1) := by decide +kernel
theorem dX3_removeBin_14 : decode cX3_removeBin 14 = Except.ok (Instr.invokestatic 32, 3) := by decide +kernel
theorem dX3_removeBin_17 : decode cX3_removeBin 17 = Except.ok (Instr.istore 4, 2) := by decide +kernel
theorem dX3_removeBin_19 : decode cX3_removeBin 19 = Except.ok (Instr.iload 4, 2) := by decide +kernel
theorem dX3_removeBin_21 : decode cX3_removeBin 21 = Except.ok (Instr.iconst (-1), 1) := by decide +kernel
theorem dX3_removeBin_22 : decode cX3_removeBin 22 = Except.ok (Instr.if_icmp .eq 39, 3) := by decide +kernel
theorem dX3_removeBin_25 : decode cX3_removeBin 25 = Except.ok (Instr.aload_n 0, 1) := by decide +kernel
theorem dX3_removeBin_26 : decode cX3_removeBin 26 = Except.ok (Instr.getfield 15, 3) := by decide +kernel
theorem dX3_removeBin_29 : decode cX3_removeBin 29 = Except.ok (Instr.iload 4, 2) := by decide +kernel
theorem dX3_removeBin_31 : decode cX3_removeBin 31 = Except.ok (Instr.baload, 1) := by decide +kernel
theorem dX3_removeBin_32 : decode cX3_removeBin 32 = Except.ok (Instr.ifCond .eq 29, 3) := by decide +kernel
theorem dX3_removeBin_35 : decode cX3_removeBin 35 = Except.ok (Instr.aload_n 0, 1) := by decide +kernel
theorem dX3_removeBin_36 : decode cX3_removeBin 36 = Except.ok (Instr.getfield 11, 3) := by decide +kernel
theorem dX3_removeBin_39 : decode cX3_removeBin 39 = Except.ok (Instr.iload 4, 2) := by decide +kernel
theorem dX3_removeBin_41 : decode cX3_removeBin 41 = Except.ok (Instr.iconst 0, 1) := by decide +kernel
theorem dX3_removeBin_42 : decode cX3_removeBin 42 = Except.ok (Instr.iastore, 1) := by decide +kernel
theorem dX3_removeBin_43 : decode cX3_removeBin 43 = Except.ok (Instr.aload_n 0, 1) := by decide +kernel
theorem dX3_removeBin_44 : decode cX3_removeBin 44 = Except.ok (Instr.getfield 15, 3) := by decide +kernel
theorem dX3_removeBin_47 : decode cX3_removeBin 47 = Except.ok (Instr.iload 4, 2) := by decide +kernel
theorem dX3_removeBin_49 : decode cX3_removeBin 49 = Except.ok (Instr.iconst 0, 1) := by decide +kernel
theorem dX3_removeBin_50 : decode cX3_removeBin 50 = Except.ok (Instr.bastore, 1) := by decide +kernel
theorem dX3_removeBin_51 : decode cX3_removeBin 51 = Except.ok (Instr.aload_n 0, 1) := by decide +kernel
theorem dX3_removeBin_52 : decode cX3_removeBin 52 = Except.ok (Instr.dup, 1) := by decide +kernel
theorem dX3_removeBin_53 : decode cX3_removeBin 53 = Except.ok (Instr.getfield 36, 3) := by decide +kernel
theorem dX3_removeBin_56 : decode cX3_removeBin 56 = Except.ok (Instr.iconst 1, 1) := by decide +kernel
theorem dX3_removeBin_57 : decode cX3_removeBin 57 = Except.ok (Instr.isub, 1) := by decide +kernel
theorem dX3_removeBin_58 : decode cX3_removeBin 58 = Except.ok (Instr.putfield 36, 3) := by decide +kernel
theorem dX3_removeBin_61 : decode cX3_removeBin 61 = Except.ok (Instr.iinc 3 1, 3) := by decide +kernel
theorem dX3_removeBin_64 : decode cX3_removeBin 64 = Except.ok (Instr.goto (-57), 3) := by decide +kernel
theorem dX3_removeBin_67 : decode cX3_removeBin 67 = Except.ok (Instr.iload_n 2, 1) := by decide +kernel
theorem dX3_removeBin_68 : decode cX3_removeBin 68 = Except.ok (Instr.aload_n 0, 1) := by decide +kernel
theorem dX3_removeBin_69 : decode cX3_removeBin 69 = Except.ok (Instr.getfield 36, 3) := by decide +kernel
theorem dX3_removeBin_72 : decode cX3_removeBin 72 = Except.ok (Instr.isub, 1) := by decide +kernel
theorem dX3_removeBin_73 : decode cX3_removeBin 73 = Except.ok (Instr.ireturn, 1) := by decide +kernel
theorem dX3_empty_0 : decode cX3_empty 0 = Except.ok (Instr.iconst 0, 1) := by decide +kernel
theorem dX3_empty_1 : decode cX3_empty 1 = Except.ok (Instr.istore_n 1, 1) := by decide +kernel
theorem dX3_empty_2 : decode cX3_empty 2 = Except.ok (Instr.iload_n 1, 1) := by decide +kernel
theorem dX3_empty_3 : decode cX3_empty 3 = Except.ok (Instr.bipush 13, 2) := by decide +kernel
theorem dX3_empty_5 : decode cX3_empty 5 = Except.ok (Instr.if_icmp .ge 18, 3) := by decide +kernel
theorem dX3_empty_8 : decode cX3_empty 8 = Except.ok (Instr.aload_n 0, 1) := by decide +kernel
theorem dX3_empty_9 : decode cX3_empty 9 = Except.ok (Instr.bipush (-4), 2) := by decide +kernel
theorem dX3_empty_11 : decode cX3_empty 11 = Except.ok (Instr.iload_n 1, 1) := by decide +kernel
theorem dX3_empty_12 : decode cX3_empty 12 = Except.ok (Instr.iadd, 1) := by decide +kernel
theorem dX3_empty_13 : decode cX3_empty 13 = Except.ok (Instr.invokevirtual 53, 3) := by decide +kernel
theorem dX3_empty_16 : decode cX3_empty 16 = Except.ok (Instr.pop, 1) := by decide +kernel
theorem dX3_empty_17 : decode cX3_empty 17 = Except.ok (Instr.iinc 1 1, 3) := by decide +kernel
theorem dX3_empty_20 : decode cX3_empty 20 = Except.ok (Instr.goto (-18), 3) := by decide +kernel
theorem dX3_empty_23 : decode cX3_empty 23 = Except.ok (Instr.return_, 1) := by decide +kernel
theorem dX0_init_0 : decode cX0_init 0 = Except.ok (Instr.aload_n 0, 1) := by decide +kernel
theorem dX0_init_1 : decode cX0_init 1 = Except.ok (Instr.invokespecial 3, 3) := by decide +kernel
theorem dX0_init_4 : decode cX0_init 4 = Except.ok (Instr.aload_n 0, 1) := by decide +kernel
theorem dX0_init_5 : decode cX0_init 5 = Except.ok (Instr.iconst 4, 1) := by decide +kernel
theorem dX0_init_6 : decode cX0_init 6 = Except.ok (Instr.newarray .long, 2) := by decide +kernel
theorem dX0_init_8 : decode cX0_init 8 = Except.ok (Instr.putfield 9, 3) := by decide +kernel
theorem dX0_init_11 : decode cX0_init 11 = Except.ok (Instr.aload_n 0, 1) := by decide +kernel
theorem dX0_init_12 : decode cX0_init 12 = Except.ok (Instr.iconst 4, 1) := by decide +kernel
theorem dX0_init_13 : decode cX0_init 13 = Except.ok (Instr.newarray .long, 2) := by decide +kernel
theorem dX0_init_15 : decode cX0_init 15 = Except.ok (Instr.putfield 15, 3) := by decide +kernel
theorem dX0_init_18 : decode cX0_init 18 = Except.ok (Instr.aload_n 0, 1) := by decide +kernel
theorem dX0_init_19 : decode cX0_init 19 = Except.ok (Instr.iconst 4, 1) := by decide +kernel
theorem dX0_init_20 : decode cX0_init 20 = Except.ok (Instr.newarray .long, 2) := by decide +kernel
theorem dX0_init_22 : decode cX0_init 22 = Except.ok (Instr.putfield 18, 3) := by decide +kernel
theorem dX0_init_25 : decode cX0_init 25 = Except.ok (Instr.aload_n 0, 1) := by decide +kernel
theorem dX0_init_26 : decode cX0_init 26 = Except.ok (Instr.iconst 4, 1) := by decide +kernel
theorem dX0_init_27 : decode cX0_init 27 = Except.ok (Instr.newarray .long, 2) := by decide +kernel
theorem dX0_init_29 : decode cX0_init 29 = Except.ok (Instr.putfield 21, 3) := by decide +kernel
theorem dX0_init_32 : decode cX0_init 32 = Except.ok (Instr.aload_n 0, 1) := by decide +kernel
theorem dX0_init_33 : decode cX0_init 33 = Except.ok (Instr.iconst 3, 1) := by decide +kernel
theorem dX0_init_34 : decode cX0_init 34 = Except.ok (Instr.iconst 3, 1) := by decide +kernel
theorem dX0_init_35 : decode cX0_init 35 = Except.ok (Instr.multianewarray 24 2, 4) := by decide +kernel
theorem dX0_init_39 : decode cX0_init 39 = Except.ok (Instr.putfield 26, 3) := by decide +kernel
theorem dX0_init_42 : decode cX0_init 42 = Except.ok (Instr.aload_n 0, 1) := by decide +kernel
theorem dX0_init_43 : decode cX0_init 43 = Except.ok (Instr.invokevirtual 29, 3) := by decide +kernel
theorem dX0_init_46 : decode cX0_init 46 = Except.ok (Instr.return_, 1) := by decide +kernel
theorem dX0_align_0 : decode cX0_align 0 = Except.ok (Instr.aload_n 0, 1) := by decide +kernel
theorem dX0_align_1 : decode cX0_align 1 = Except.ok (Instr.getfield 9, 3) := by decide +kernel
theorem dX0_align_4 : decode cX0_align 4 = Except.ok (Instr.lconst 0, 1) := by decide +kernel
theorem dX0_align_5 : decode cX0_align 5 = Except.ok (Instr.invokestatic 32, 3) := by decide +kernel
theorem dX0_align_8 : decode cX0_align 8 = Except.ok (Instr.aload_n 0, 1) := by decide +kernel
theorem dX0_align_9 : decode cX0_align 9 = Except.ok (Instr.getfield 9, 3) := by decide +kernel
theorem dX0_align_12 : decode cX0_align 12 = Except.ok (Instr.iconst 0, 1) := by decide +kernel
theorem dX0_align_13 : decode cX0_align 13 = Except.ok (Instr.ldc2_w 38, 3) := by decide +kernel
theorem dX0_align_16 : decode cX0_align 16 = Except.ok (Instr.lastore, 1) := by decide +kernel
theorem dX0_align_17 : decode cX0_align 17 = Except.ok (Instr.aload_n 0, 1) := by decide +kernel
theorem dX0_align_18 : decode cX0_align 18 = Except.ok (Instr.invokevirtual 40, 3) := by decide +kernel
theorem dX0_align_21 : decode cX0_align 21 = Except.ok (Instr.return_, 1) := by decide +kernel
theorem dX0_set_0 : decode cX0_set 0 = Except.ok (Instr.aload_n 1, 1) := by decide +kernel
theorem dX0_set_1 : decode cX0_set 1 = Except.ok (Instr.iconst 0, 1) := by decide +kernel
theorem dX0_set_2 : decode cX0_set 2 = Except.ok (Instr.aload_n 0, 1) := by decide +kernel
theorem dX0_set_3 : decode cX0_set 3 = Except.ok (Instr.getfield 9, 3) := by decide +kernel
theorem dX0_set_6 : decode cX0_set 6 = Except.ok (Instr.iconst 0, 1) := by decide +kernel
theorem dX0_set_7 : decode cX0_set 7 = Except.ok (Instr.iconst 4, 1) := by decide +kernel
theorem dX0_set_8 : decode cX0_set 8 = Except.ok (Instr.invokestatic 43, 3) := by decide +kernel
theorem dX0_set_11 : decode cX0_set 11 = Except.ok (Instr.aload_n 0, 1) := by decide +kernel
theorem dX0_set_12 : decode cX0_set 12 = Except.ok (Instr.invokevirtual 40, 3) := by decide +kernel
theorem dX0_set_15 : decode cX0_set 15 = Except.ok (Instr.return_, 1) := by decide +kernel
theorem dX0_turn_0 : decode cX0_turn 0 = Except.ok (Instr.lload_n 1, 1) := by decide +kernel
theorem dX0_turn_1 : decode cX0_turn 1 = Except.ok (Instr.iconst 1, 1) := by decide +kernel
theorem dX0_turn_2 : decode cX0_turn 2 = Except.ok (Instr.lshr, 1) := by decide +kernel
theorem dX0_turn_3 : decode cX0_turn 3 = Except.ok (Instr.lstore 7, 2) := by decide +kernel
theorem dX0_turn_5 : decode cX0_turn 5 = Except.ok (Instr.lload_n 3, 1) := by decide +kernel
theorem dX0_turn_6 : decode cX0_turn 6 = Except.ok (Instr.iconst 1, 1) := by decide +kernel
theorem dX0_turn_7 : decode cX0_turn 7 = Except.ok (Instr.lshr, 1) := by decide +kernel
theorem dX0_turn_8 : decode cX0_turn 8 = Except.ok (Instr.lstore 9, 2) := by decide +kernel
theorem dX0_turn_10 : decode cX0_turn 10 = Except.ok (Instr.lload 5, 2) := by decide +kernel
theorem dX0_turn_12 : decode cX0_turn 12 = Except.ok (Instr.iconst 1, 1) := by decide +kernel
theorem dX0_turn_13 : decode cX0_turn 13 = Except.ok (Instr.lshr, 1) := by decide +kernel
theorem dX0_turn_14 : decode cX0_turn 14 = Except.ok (Instr.lstore 11, 2) := by decide +kernel
theorem dX0_turn_16 : decode cX0_turn 16 = Except.ok (Instr.lload 7, 2) := by decide +kernel
theorem dX0_turn_18 : decode cX0_turn 18 = Except.ok (Instr.lload 7, 2) := by decide +kernel
theorem dX0_turn_20 : decode cX0_turn 20 = Except.ok (Instr.lmul, 1) := by decide +kernel
theorem dX0_turn_21 : decode cX0_turn 21 = Except.ok (Instr.lload 9, 2) := by decide +kernel
theorem dX0_turn_23 : decode cX0_turn 23 = Except.ok (Instr.lload 9, 2) := by decide +kernel
theorem dX0_turn_25 : decode cX0_turn 25 = Except.ok (Instr.lmul, 1) := by decide +kernel
theorem dX0_turn_26 : decode cX0_turn 26 = Except.ok (Instr.ladd, 1) := by decide +kernel
theorem dX0_turn_27 : decode cX0_turn 27 = Except.ok (Instr.lload 11, 2) := by decide +kernel
theorem dX0_turn_29 : decode cX0_turn 29 = Except.ok (Instr.lload 11, 2) := by decide +kernel
theorem dX0_turn_31 : decode cX0_turn 31 = Except.ok (Instr.lmul, 1) := by decide +kernel
theorem dX0_turn_32 : decode cX0_turn 32 = Except.ok (Instr.ladd, 1) := by decide +kernel
theorem dX0_turn_33 : decode cX0_turn 33 = Except.ok (Instr.bipush 28, 2) := by decide +kernel
theorem dX0_turn_35 : decode cX0_turn 35 = Except.ok (Instr.lshr, 1) := by decide +kernel
theorem dX0_turn_36 : decode cX0_turn 36 = Except.ok (Instr.lstore 13, 2) := by decide +kernel
theorem dX0_turn_38 : decode cX0_turn 38 = Except.ok (Instr.aload_n 0, 1) := by decide +kernel
theorem dX0_turn_39 : decode cX0_turn 39 = Except.ok (Instr.ldc2_w 38, 3) := by decide +kernel
theorem dX0_turn_42 : decode cX0_turn 42 = Except.ok (Instr.lload 13, 2) := by decide +kernel
theorem dX0_turn_44 : decode cX0_turn 44 = Except.ok (Instr.iconst 1, 1) := by decide +kernel
theorem dX0_turn_45 : decode cX0_turn 45 = Except.ok (Instr.lshr, 1) := by decide +kernel
theorem dX0_turn_46 : decode cX0_turn 46 = Except.ok (Instr.lsub, 1) := by decide +kernel
theorem dX0_turn_47 : decode cX0_turn 47 = Except.ok (Instr.ldc2_w 38, 3) := by decide +kernel
theorem dX0_turn_50 : decode cX0_turn 50 = Except.ok (Instr.lload 13, 2) := by decide +kernel
theorem dX0_turn_52 : decode cX0_turn 52 = Except.ok (Instr.ldc2_w 49, 3) := by decide +kernel
theorem dX0_turn_55 : decode cX0_turn 55 = Except.ok (Instr.invokestatic 51, 3) := by decide +kernel
theorem dX0_turn_58 : decode cX0_turn 58 = Except.ok (Instr.lsub, 1) := by decide +kernel
theorem dX0_turn_59 : decode cX0_turn 59 = Except.ok (Instr.lload 7, 2) := by decide +kernel
theorem dX0_turn_61 : decode cX0_turn 61 = Except.ok (Instr.lload 9, 2) := by decide +kernel
theorem dX0_turn_63 : decode cX0_turn 63 = Except.ok (Instr.lload 11, 2) := by decide +kernel
theorem dX0_turn_65 : decode cX0_turn 65 = Except.ok (Instr.invokevirtual 57, 3) := by decide +kernel
theorem dX0_turn_68 : decode cX0_turn 68 = Except.ok (Instr.return_, 1) := by decide +kernel
theorem dX0_turnCoarsely_0 : decode cX0_turnCoarsely 0 = Except.ok (Instr.aload_n 0, 1) := by decide +kernel
theorem dX0_turnCoarsely_1 : decode cX0_turnCoarsely 1 = Except.ok (Instr.ldc2_w 38, 3) := by decide +kernel
theorem dX0_turnCoarsely_4 : decode cX0_turnCoarsely 4 = Except.ok (Instr.ldc2_w 38, 3) := by decide +kernel
theorem dX0_turnCoarsely_7 : decode cX0_turnCoarsely 7 = Except.ok (Instr.lload_n 1, 1) := by decide +kernel
theorem dX0_turnCoarsely_8 : decode cX0_turnCoarsely 8 = Except.ok (Instr.iconst 1, 1) := by decide +kernel
theorem dX0_turnCoarsely_9 : decode cX0_turnCoarsely 9 = Except.ok (Instr.lshr, 1) := by decide +kernel
theorem dX0_turnCoarsely_10 : decode cX0_turnCoarsely 10 = Except.ok (Instr.lload_n 3, 1) := by decide +kernel
theorem dX0_turnCoarsely_11 : decode cX0_turnCoarsely 11 = Except.ok (Instr.iconst 1, 1) := by decide +kernel
theorem dX0_turnCoarsely_12 : decode cX0_turnCoarsely 12 = Except.ok (Instr.lshr, 1) := by decide +kernel
theorem dX0_turnCoarsely_13 : decode cX0_turnCoarsely 13 = Except.ok (Instr.lload 5, 2) := by decide +kernel
theorem dX0_turnCoarsely_15 : decode cX0_turnCoarsely 15 = Except.ok (Instr.iconst 1, 1) := by decide +kernel
theorem dX0_turnCoarsely_16 : decode cX0_turnCoarsely 16 = Except.ok (Instr.lshr, 1) := by decide +kernel
theorem dX0_turnCoarsely_17 : decode cX0_turnCoarsely 17 = Except.ok (Instr.invokevirtual 57, 3) := by decide +kernel
theorem dX0_turnCoarsely_20 : decode cX0_turnCoarsely 20 = Except.ok (Instr.return_, 1) := by decide +kernel
theorem dX0_multiplyBy_0 : decode cX0_multiplyBy 0 = Except.ok (Instr.aload_n 0, 1) := by decide +kernel
theorem dX0_multiplyBy_1 : decode cX0_multiplyBy 1 = Except.ok (Instr.getfield 15, 3) := by decide +kernel
theorem dX0_multiplyBy_4 : decode cX0_multiplyBy 4 = Except.ok (Instr.iconst 0, 1) := by decide +kernel
theorem dX0_multiplyBy_5 : decode cX0_multiplyBy 5 = Except.ok (Instr.lload_n 1, 1) := by decide +kernel
theorem dX0_multiplyBy_6 : decode cX0_multiplyBy 6 = Except.ok (Instr.lastore, 1) := by decide +kernel
theorem dX0_multiplyBy_7 : decode cX0_multiplyBy 7 = Except.ok (Instr.aload_n 0, 1) := by decide +kernel
theorem dX0_multiplyBy_8 : decode cX0_multiplyBy 8 = Except.ok (Instr.getfield 15, 3) := by decide +kernel
theorem dX0_multiplyBy_11 : decode cX0_multiplyBy 11 = Except.ok (Instr.iconst 1, 1) := by decide +kernel
theorem dX0_multiplyBy_12 : decode cX0_multiplyBy 12 = Except.ok (Instr.lload 5, 2) := by decide +kernel
theorem dX0_multiplyBy_14 : decode cX0_multiplyBy 14 = Except.ok (Instr.lload_n 3, 1) := by decide +kernel
theorem dX0_multiplyBy_15 : decode cX0_multiplyBy 15 = Except.ok (Instr.lmul, 1) := by decide +kernel
theorem dX0_multiplyBy_16 : decode cX0_multiplyBy 16 = Except.ok (Instr.bipush 28, 2) := by decide +kernel
theorem dX0_multiplyBy_18 : decode cX0_multiplyBy 18 = Except.ok (Instr.lshr, 1) := by decide +kernel
theorem dX0_multiplyBy_19 : decode cX0_multiplyBy 19 = Except.ok (Instr.lastore, 1) := by decide +kernel
theorem dX0_multiplyBy_20 : decode cX0_multiplyBy 20 = Except.ok (Instr.aload_n 0, 1) := by decide +kernel
theorem dX0_multiplyBy_21 : decode cX0_multiplyBy 21 = Except.ok (Instr.getfield 15, 3) := by decide +kernel
theorem dX0_multiplyBy_24 : decode cX0_multiplyBy 24 = Except.ok (Instr.iconst 2, 1) := by decide +kernel
theorem dX0_multiplyBy_25 : decode cX0_multiplyBy 25 = Except.ok (Instr.lload 7, 2) := by decide +kernel
theorem dX0_multiplyBy_27 : decode cX0_multiplyBy 27 = Except.ok (Instr.lload_n 3, 1) := by decide +kernel
theorem dX0_multiplyBy_28 : decode cX0_multiplyBy 28 = Except.ok (Instr.lmul, 1) := by decide +kernel
theorem dX0_multiplyBy_29 : decode cX0_multiplyBy 29 = Except.ok (Instr.bipush 28, 2) := by decide +kernel
theorem dX0_multiplyBy_31 : decode cX0_multiplyBy 31 = Except.ok (Instr.lshr, 1) := by decide +kernel
theorem dX0_multiplyBy_32 : decode cX0_multiplyBy 32 = Except.ok (Instr.lastore, 1) := by decide +kernel
theorem dX0_multiplyBy_33 : decode cX0_multiplyBy 33 = Except.ok (Instr.aload_n 0, 1) := by decide +kernel
theorem dX0_multiplyBy_34 : decode cX0_multiplyBy 34 = Except.ok (Instr.getfield 15, 3) := by decide +kernel
theorem dX0_multiplyBy_37 : decode cX0_multiplyBy 37 = Except.ok (Instr.iconst 3, 1) := by decide +kernel
theorem dX0_multiplyBy_38 : decode cX0_multiplyBy 38 = Except.ok (Instr.lload 9, 2) := by decide +kernel
theorem dX0_multiplyBy_40 : decode cX0_multiplyBy 40 = Except.ok (Instr.lload_n 3, 1) := by decide +kernel
theorem dX0_multiplyBy_41 : decode cX0_multiplyBy 41 = Except.ok (Instr.lmul, 1) := by decide +kernel
theorem dX0_multiplyBy_42 : decode cX0_multiplyBy 42 = Except.ok (Instr.bipush 28, 2) := by decide +kernel
theorem dX0_multiplyBy_44 : decode cX0_multiplyBy 44 = Except.ok (Instr.lshr, 1) := by decide +kernel
theorem dX0_multiplyBy_45 : decode cX0_multiplyBy 45 = Except.ok (Instr.lastore, 1) := by decide +kernel
theorem dX0_multiplyBy_46 : decode cX0_multiplyBy 46 = Except.ok (Instr.aload_n 0, 1) := by decide +kernel
theorem dX0_multiplyBy_47 : decode cX0_multiplyBy 47 = Except.ok (Instr.getfield 9, 3) := by decide +kernel
theorem dX0_multiplyBy_50 : decode cX0_multiplyBy 50 = Except.ok (Instr.aload_n 0, 1) := by decide +kernel
theorem dX0_multiplyBy_51 : decode cX0_multiplyBy 51 = Except.ok (Instr.getfield 15, 3) := by decide +kernel
theorem dX0_multiplyBy_54 : decode cX0_multiplyBy 54 = Except.ok (Instr.aload_n 0, 1) := by decide +kernel
theorem dX0_multiplyBy_55 : decode cX0_multiplyBy 55 = Except.ok (Instr.getfield 21, 3) := by decide +kernel
theorem dX0_multiplyBy_58 : decode cX0_multiplyBy 58 = Except.ok (Instr.invokestatic 61, 3) := by decide +kernel
theorem dX0_multiplyBy_61 : decode cX0_multiplyBy 61 = Except.ok (Instr.aload_n 0, 1) := by decide +kernel
theorem dX0_multiplyBy_62 : decode cX0_multiplyBy 62 = Except.ok (Instr.invokevirtual 65, 3) := by decide +kernel
theorem dX0_multiplyBy_65 : decode cX0_multiplyBy 65 = Except.ok (Instr.aload_n 0, 1) := by decide +kernel
theorem dX0_multiplyBy_66 : decode cX0_multiplyBy 66 = Except.ok (Instr.invokevirtual 40, 3) := by decide +kernel
theorem dX0_multiplyBy_69 : decode cX0_multiplyBy 69 = Except.ok (Instr.return_, 1) := by decide +kernel
theorem dX0_normalizeProduct_0 : decode cX0_normalizeProduct 0 = Except.ok (Instr.lconst 0, 1) := by decide +kernel
theorem dX0_normalizeProduct_1 : decode cX0_normalizeProduct 1 = Except.ok (Instr.lstore_n 1, 1) := by decide +kernel
theorem dX0_normalizeProduct_2 : decode cX0_normalizeProduct 2 = Except.ok (Instr.iconst 0, 1) := by decide +kernel
theorem dX0_normalizeProduct_3 : decode cX0_normalizeProduct 3 = Except.ok (Instr.istore_n 3, 1) := by decide +kernel
theorem dX0_normalizeProduct_4 : decode cX0_normalizeProduct 4 = Except.ok (Instr.iload_n 3, 1) := by decide +kernel
theorem dX0_normalizeProduct_5 : decode cX0_normalizeProduct 5 = Except.ok (Instr.iconst 4, 1) := by decide +kernel
theorem dX0_normalizeProduct_6 : decode cX0_normalizeProduct 6 = Except.ok (Instr.if_icmp .ge 25, 3) := by decide +kernel
theorem dX0_normalizeProduct_9 : decode cX0_normalizeProduct 9 = Except.ok (Instr.lload_n 1, 1) := by decide +kernel
theorem dX0_normalizeProduct_10 : decode cX0_normalizeProduct 10 = Except.ok (Instr.aload_n 0, 1) := by decide +kernel
theorem dX0_normalizeProduct_11 : decode cX0_normalizeProduct 11 = Except.ok (Instr.getfield 21, 3) := by decide +kernel
theorem dX0_normalizeProduct_14 : decode cX0_normalizeProduct 14 = Except.ok (Instr.iload_n 3, 1) := by decide +kernel
theorem dX0_normalizeProduct_15 : decode cX0_normalizeProduct 15 = Except.ok (Instr.laload, 1) := by decide +kernel
theorem dX0_normalizeProduct_16 : decode cX0_normalizeProduct 16 = Except.ok (Instr.aload_n 0, 1) := by decide +kernel
theorem dX0_normalizeProduct_17 : decode cX0_normalizeProduct 17 = Except.ok (Instr.getfield 21, 3) := by decide +kernel
theorem dX0_normalizeProduct_20 : decode cX0_normalizeProduct 20 = Except.ok (Instr.iload_n 3, 1) := by decide +kernel
theorem dX0_normalizeProduct_21 : decode cX0_normalizeProduct 21 = Except.ok (Instr.laload, 1) := by decide +kernel
theorem dX0_normalizeProduct_22 : decode cX0_normalizeProduct 22 = Except.ok (Instr.lmul, 1) := by decide +kernel
theorem dX0_normalizeProduct_23 : decode cX0_normalizeProduct 23 = Except.ok (Instr.ladd, 1) := by decide +kernel
theorem dX0_normalizeProduct_24 : decode cX0_normalizeProduct 24 = Except.ok (Instr.lstore_n 1, 1) := by decide +kernel
theorem dX0_normalizeProduct_25 : decode cX0_normalizeProduct 25 = Except.ok (Instr.iinc 3 1, 3) := by decide +kernel
theorem dX0_normalizeProduct_28 : decode cX0_normalizeProduct 28 = Except.ok (Instr.goto (-24), 3) := by decide +kernel
theorem dX0_normalizeProduct_31 : decode cX0_normalizeProduct 31 = Except.ok (Instr.ldc2_w 38, 3) := by decide +kernel
theorem dX0_normalizeProduct_34 : decode cX0_normalizeProduct 34 = Except.ok (Instr.ldc2_w 38, 3) := by decide +kernel
theorem dX0_normalizeProduct_37 : decode cX0_normalizeProduct 37 = Except.ok (Instr.lload_n 1, 1) := by decide +kernel
theorem dX0_normalizeProduct_38 : decode cX0_normalizeProduct 38 = Except.ok (Instr.bipush 28, 2) := by decide +kernel
theorem dX0_normalizeProduct_40 : decode cX0_normalizeProduct 40 = Except.ok (Instr.lshr, 1) := by decide +kernel
theorem dX0_normalizeProduct_41 : decode cX0_normalizeProduct 41 = Except.ok (Instr.lsub, 1) := by decide +kernel
theorem dX0_normalizeProduct_42 : decode cX0_normalizeProduct 42 = Except.ok (Instr.iconst 1, 1) := by decide +kernel
theorem dX0_normalizeProduct_43 : decode cX0_normalizeProduct 43 = Except.ok (Instr.lshr, 1) := by decide +kernel
theorem dX0_normalizeProduct_44 : decode cX0_normalizeProduct 44 = Except.ok (Instr.ladd, 1) := by decide +kernel
theorem dX0_normalizeProduct_45 : decode cX0_normalizeProduct 45 = Except.ok (Instr.lstore_n 3, 1) := by decide +kernel
theorem dX0_normalizeProduct_46 : decode cX0_normalizeProduct 46 = Except.ok (Instr.iconst 0, 1) := by decide +kernel
theorem dX0_normalizeProduct_47 : decode cX0_normalizeProduct 47 = Except.ok (Instr.istore 5, 2) := by decide +kernel
theorem dX0_normalizeProduct_49 : decode cX0_normalizeProduct 49 = Except.ok (Instr.iload 5, 2) := by decide +kernel
theorem dX0_normalizeProduct_51 : decode cX0_normalizeProduct 51 = Except.ok (Instr.iconst 4, 1) := by decide +kernel
theorem dX0_normalizeProduct_52 : decode cX0_normalizeProduct 52 = Except.ok (Instr.if_icmp .ge 28, 3) := by decide +kernel
theorem dX0_normalizeProduct_55 : decode cX0_normalizeProduct 55 = Except.ok (Instr.aload_n 0, 1) := by decide +kernel
theorem dX0_normalizeProduct_56 : decode cX0_normalizeProduct 56 = Except.ok (Instr.getfield 9, 3) := by decide +kernel
theorem dX0_normalizeProduct_59 : decode cX0_normalizeProduct 59 = Except.ok (Instr.iload 5, 2) := by decide +kernel
theorem dX0_normalizeProduct_61 : decode cX0_normalizeProduct 61 = Except.ok (Instr.aload_n 0, 1) := by decide +kernel
theorem dX0_normalizeProduct_62 : decode cX0_normalizeProduct 62 = Except.ok (Instr.getfield 21, 3) := by decide +kernel
theorem dX0_normalizeProduct_65 : decode cX0_normalizeProduct 65 = Except.ok (Instr.iload 5, 2) := by decide +kernel
theorem dX0_normalizeProduct_67 : decode cX0_normalizeProduct 67 = Except.ok (Instr.laload, 1) := by decide +kernel
theorem dX0_normalizeProduct_68 : decode cX0_normalizeProduct 68 = Except.ok (Instr.lload_n 3, 1) := by decide +kernel
theorem dX0_normalizeProduct_69 : decode cX0_normalizeProduct 69 = Except.ok (Instr.lmul, 1) := by decide +kernel
theorem dX0_normalizeProduct_70 : decode cX0_normalizeProduct 70 = Except.ok (Instr.bipush 28, 2) := by decide +kernel
theorem dX0_normalizeProduct_72 : decode cX0_normalizeProduct 72 = Except.ok (Instr.lshr, 1) := by decide +kernel
theorem dX0_normalizeProduct_73 : decode cX0_normalizeProduct 73 = Except.ok (Instr.lastore, 1) := by decide +kernel
theorem dX0_normalizeProduct_74 : decode cX0_normalizeProduct 74 = Except.ok (Instr.iinc 5 1, 3) := by decide +kernel
theorem dX0_normalizeProduct_77 : decode cX0_normalizeProduct 77 = Except.ok (Instr.goto (-28), 3) := by decide +kernel
theorem dX0_normalizeProduct_80 : decode cX0_normalizeProduct 80 = Except.ok (Instr.return_, 1) := by decide +kernel
theorem dX0_multiply_0 : decode cX0_multiply 0 = Except.ok (Instr.aload_n 2, 1) := by decide +kernel
theorem dX0_multiply_1 : decode cX0_multiply 1 = Except.ok (Instr.iconst 0, 1) := by decide +kernel
theorem dX0_multiply_2 : decode cX0_multiply 2 = Except.ok (Instr.aload_n 0, 1) := by decide +kernel
theorem dX0_multiply_3 : decode cX0_multiply 3 = Except.ok (Instr.iconst 0, 1) := by decide +kernel
theorem dX0_multiply_4 : decode cX0_multiply 4 = Except.ok (Instr.laload, 1) := by decide +kernel
theorem dX0_multiply_5 : decode cX0_multiply 5 = Except.ok (Instr.aload_n 1, 1) := by decide +kernel
theorem dX0_multiply_6 : decode cX0_multiply 6 = Except.ok (Instr.iconst 0, 1) := by decide +kernel
theorem dX0_multiply_7 : decode cX0_multiply 7 = Except.ok (Instr.laload, 1) := by decide +kernel
theorem dX0_multiply_8 : decode cX0_multiply 8 = Except.ok (Instr.lmul, 1) := by decide +kernel
theorem dX0_multiply_9 : decode cX0_multiply 9 = Except.ok (Instr.aload_n 0, 1) := by decide +kernel
theorem dX0_multiply_10 : decode cX0_multiply 10 = Except.ok (Instr.iconst 1, 1) := by decide +kernel
theorem dX0_multiply_11 : decode cX0_multiply 11 = Except.ok (Instr.laload, 1) := by decide +kernel
theorem dX0_multiply_12 : decode cX0_multiply 12 = Except.ok (Instr.aload_n 1, 1) := by decide +kernel
theorem dX0_multiply_13 : decode cX0_multiply 13 = Except.ok (Instr.iconst 1, 1) := by decide +kernel
theorem dX0_multiply_14 : decode cX0_multiply 14 = Except.ok (Instr.laload, 1) := by decide +kernel
theorem dX0_multiply_15 : decode cX0_multiply 15 = Except.ok (Instr.lmul, 1) := by decide +kernel
theorem dX0_multiply_16 : decode cX0_multiply 16 = Except.ok (Instr.lsub, 1) := by decide +kernel
theorem dX0_multiply_17 : decode cX0_multiply 17 = Except.ok (Instr.aload_n 0, 1) := by decide +kernel
theorem dX0_multiply_18 : decode cX0_multiply 18 = Except.ok (Instr.iconst 2, 1) := by decide +kernel
theorem dX0_multiply_19 : decode cX0_multiply 19 = Except.ok (Instr.laload, 1) := by decide +kernel
theorem dX0_multiply_20 : decode cX0_multiply 20 = Except.ok (Instr.aload_n 1, 1) := by decide +kernel
theorem dX0_multiply_21 : decode cX0_multiply 21 = Except.ok (Instr.iconst 2, 1) := by decide +kernel
theorem dX0_multiply_22 : decode cX0_multiply 22 = Except.ok (Instr.laload, 1) := by decide +kernel
theorem dX0_multiply_23 : decode cX0_multiply 23 = Except.ok (Instr.lmul, 1) := by decide +kernel
theorem dX0_multiply_24 : decode cX0_multiply 24 = Except.ok (Instr.lsub, 1) := by decide +kernel
theorem dX0_multiply_25 : decode cX0_multiply 25 = Except.ok (Instr.aload_n 0, 1) := by decide +kernel
theorem dX0_multiply_26 : decode cX0_multiply 26 = Except.ok (Instr.iconst 3, 1) := by decide +kernel
theorem dX0_multiply_27 : decode cX0_multiply 27 = Except.ok (Instr.laload, 1) := by decide +kernel
theorem dX0_multiply_28 : decode cX0_multiply 28 = Except.ok (Instr.aload_n 1, 1) := by decide +kernel
theorem dX0_multiply_29 : decode cX0_multiply 29 = Except.ok (Instr.iconst 3, 1) := by decide +kernel
theorem dX0_multiply_30 : decode cX0_multiply 30 = Except.ok (Instr.laload, 1) := by decide +kernel
theorem dX0_multiply_31 : decode cX0_multiply 31 = Except.ok (Instr.lmul, 1) := by decide +kernel
theorem dX0_multiply_32 : decode cX0_multiply 32 = Except.ok (Instr.lsub, 1) := by decide +kernel
theorem dX0_multiply_33 : decode cX0_multiply 33 = Except.ok (Instr.bipush 28, 2) := by decide +kernel
theorem dX0_multiply_35 : decode cX0_multiply 35 = Except.ok (Instr.lshr, 1) := by decide +kernel
theorem dX0_multiply_36 : decode cX0_multiply 36 = Except.ok (Instr.lastore, 1) := by decide +kernel
theorem dX0_multiply_37 : decode cX0_multiply 37 = Except.ok (Instr.aload_n 2, 1) := by decide +kernel
theorem dX0_multiply_38 : decode cX0_multiply 38 = Except.ok (Instr.iconst 1, 1) := by decide +kernel
theorem dX0_multiply_39 : decode cX0_multiply 39 = Except.ok (Instr.aload_n 0, 1) := by decide +kernel
theorem dX0_multiply_40 : decode cX0_multiply 40 = Except.ok (Instr.iconst 0, 1) := by decide +kernel
theorem dX0_multiply_41 : decode cX0_multiply 41 = Except.ok (Instr.laload, 1) := by decide +kernel
theorem dX0_multiply_42 : decode cX0_multiply 42 = Except.ok (Instr.aload_n 1, 1) := by decide +kernel
theorem dX0_multiply_43 : decode cX0_multiply 43 = Except.ok (Instr.iconst 1, 1) := by decide +kernel
theorem dX0_multiply_44 : decode cX0_multiply 44 = Except.ok (Instr.laload, 1) := by decide +kernel
theorem dX0_multiply_45 : decode cX0_multiply 45 = Except.ok (Instr.lmul, 1) := by decide +kernel
theorem dX0_multiply_46 : decode cX0_multiply 46 = Except.ok (Instr.aload_n 0, 1) := by decide +kernel
theorem dX0_multiply_47 : decode cX0_multiply 47 = Except.ok (Instr.iconst 1, 1) := by decide +kernel
theorem dX0_multiply_48 : decode cX0_multiply 48 = Except.ok (Instr.laload, 1) := by decide +kernel
theorem dX0_multiply_49 : decode cX0_multiply 49 = Except.ok (Instr.aload_n 1, 1) := by decide +kernel
theorem dX0_multiply_50 : decode cX0_multiply 50 = Except.ok (Instr.iconst 0, 1) := by decide +kernel
theorem dX0_multiply_51 : decode cX0_multiply 51 = Except.ok (Instr.laload, 1) := by decide +kernel
theorem dX0_multiply_52 : decode cX0_multiply 52 = Except.ok (Instr.lmul, 1) := by decide +kernel
theorem dX0_multiply_53 : decode cX0_multiply 53 = Except.ok (Instr.ladd, 1) := by decide +kernel
theorem dX0_multiply_54 : decode cX0_multiply 54 = Except.ok (Instr.aload_n 0, 1) := by decide +kernel
theorem dX0_multiply_55 : decode cX0_multiply 55 = Except.ok (Instr.iconst 2, 1) := by decide +kernel
theorem dX0_multiply_56 : decode cX0_multiply 56 = Except.ok (Instr.laload, 1) := by decide +kernel
theorem dX0_multiply_57 : decode cX0_multiply 57 = Except.ok (Instr.aload_n 1, 1) := by decide +kernel
theorem dX0_multiply_58 : decode cX0_multiply 58 = Except.ok (Instr.iconst 3, 1) := by decide +kernel
theorem dX0_multiply_59 : decode cX0_multiply 59 = Except.ok (Instr.laload, 1) := by decide +kernel
theorem dX0_multiply_60 : decode cX0_multiply 60 = Except.ok (Instr.lmul, 1) := by decide +kernel
theorem dX0_multiply_61 : decode cX0_multiply 61 = Except.ok (Instr.ladd, 1) := by decide +kernel
theorem dX0_multiply_62 : decode cX0_multiply 62 = Except.ok (Instr.aload_n 0, 1) := by decide +kernel
theorem dX0_multiply_63 : decode cX0_multiply 63 = Except.ok (Instr.iconst 3, 1) := by decide +kernel
theorem dX0_multiply_64 : decode cX0_multiply 64 = Except.ok (Instr.laload, 1) := by decide +kernel
theorem dX0_multiply_65 : decode cX0_multiply 65 = Except.ok (Instr.aload_n 1, 1) := by decide +kernel
theorem dX0_multiply_66 : decode cX0_multiply 66 = Except.ok (Instr.iconst 2, 1) := by decide +kernel
theorem dX0_multiply_67 : decode cX0_multiply 67 = Except.ok (Instr.laload, 1) := by decide +kernel
theorem dX0_multiply_68 : decode cX0_multiply 68 = Except.ok (Instr.lmul, 1) := by decide +kernel
theorem dX0_multiply_69 : decode cX0_multiply 69 = Except.ok (Instr.lsub, 1) := by decide +kernel
theorem dX0_multiply_70 : decode cX0_multiply 70 = Except.ok (Instr.bipush 28, 2) := by decide +kernel
theorem dX0_multiply_72 : decode cX0_multiply 72 = Except.ok (Instr.lshr, 1) := by decide +kernel
theorem dX0_multiply_73 : decode cX0_multiply 73 = Except.ok (Instr.lastore, 1) := by decide +kernel
theorem dX0_multiply_74 : decode cX0_multiply 74 = Except.ok (Instr.aload_n 2, 1) := by decide +kernel
theorem dX0_multiply_75 : decode cX0_multiply 75 = Except.ok (Instr.iconst 2, 1) := by decide +kernel
theorem dX0_multiply_76 : decode cX0_multiply 76 = Except.ok (Instr.aload_n 0, 1) := by decide +kernel
theorem dX0_multiply_77 : decode cX0_multiply 77 = Except.ok (Instr.iconst 0, 1) := by decide +kernel
theorem dX0_multiply_78 : decode cX0_multiply 78 = Except.ok (Instr.laload, 1) := by decide +kernel
theorem dX0_multiply_79 : decode cX0_multiply 79 = Except.ok (Instr.aload_n 1, 1) := by decide +kernel
theorem dX0_multiply_80 : decode cX0_multiply 80 = Except.ok (Instr.iconst 2, 1) := by decide +kernel
theorem dX0_multiply_81 : decode cX0_multiply 81 = Except.ok (Instr.laload, 1) := by decide +kernel
theorem dX0_multiply_82 : decode cX0_multiply 82 = Except.ok (Instr.lmul, 1) := by decide +kernel
theorem dX0_multiply_83 : decode cX0_multiply 83 = Except.ok (Instr.aload_n 0, 1) := by decide +kernel
theorem dX0_multiply_84 : decode cX0_multiply 84 = Except.ok (Instr.iconst 1, 1) := by decide +kernel
theorem dX0_multiply_85 : decode cX0_multiply 85 = Except.ok (Instr.laload, 1) := by decide +kernel
theorem dX0_multiply_86 : decode cX0_multiply 86 = Except.ok (Instr.aload_n 1, 1) := by decide +kernel
theorem dX0_multiply_87 : decode cX0_multiply 87 = Except.ok (Instr.iconst 3, 1) := by decide +kernel
theorem dX0_multiply_88 : decode cX0_multiply 88 = Except.ok (Instr.laload, 1) := by decide +kernel
theorem dX0_multiply_89 : decode cX0_multiply 89 = Except.ok (Instr.lmul, 1) := by decide +kernel
theorem dX0_multiply_90 : decode cX0_multiply 90 = Except.ok (Instr.lsub, 1) := by decide +kernel
theorem dX0_multiply_91 : decode cX0_multiply 91 = Except.ok (Instr.aload_n 0, 1) := by decide +kernel
theorem dX0_multiply_92 : decode cX0_multiply 92 = Except.ok (Instr.iconst 2, 1) := by decide +kernel
theorem dX0_multiply_93 : decode cX0_multiply 93 = Except.ok (Instr.laload, 1) := by decide +kernel
theorem dX0_multiply_94 : decode cX0_multiply 94 = Except.ok (Instr.aload_n 1, 1) := by decide +kernel
theorem dX0_multiply_95 : decode cX0_multiply 95 = Except.ok (Instr.iconst 0, 1) := by decide +kernel
theorem dX0_multiply_96 : decode cX0_multiply 96 = Except.ok (Instr.laload, 1) := by decide +kernel
theorem dX0_multiply_97 : decode cX0_multiply 97 = Except.ok (Instr.lmul, 1) := by decide +kernel
theorem dX0_multiply_98 : decode cX0_multiply 98 = Except.ok (Instr.ladd, 1) := by decide +kernel
theorem dX0_multiply_99 : decode cX0_multiply 99 = Except.ok (Instr.aload_n 0, 1) := by decide +kernel
theorem dX0_multiply_100 : decode cX0_multiply 100 = Except.ok (Instr.iconst 3, 1) := by decide +kernel
theorem dX0_multiply_101 : decode cX0_multiply 101 = Except.ok (Instr.laload, 1) := by decide +kernel
theorem dX0_multiply_102 : decode cX0_multiply 102 = Except.ok (Instr.aload_n 1, 1) := by decide +kernel
theorem dX0_multiply_103 : decode cX0_multiply 103 = Except.ok (Instr.iconst 1, 1) := by decide +kernel
theorem dX0_multiply_104 : decode cX0_multiply 104 = Except.ok (Instr.laload, 1) := by decide +kernel
theorem dX0_multiply_105 : decode cX0_multiply 105 = Except.ok (Instr.lmul, 1) := by decide +kernel
theorem dX0_multiply_106 : decode cX0_multiply 106 = Except.ok (Instr.ladd, 1) := by decide +kernel
theorem dX0_multiply_107 : decode cX0_multiply 107 = Except.ok (Instr.bipush 28, 2) := by decide +kernel
theorem dX0_multiply_109 : decode cX0_multiply 109 = Except.ok (Instr.lshr, 1) := by decide +kernel
theorem dX0_multiply_110 : decode cX0_multiply 110 = Except.ok (Instr.lastore, 1) := by decide +kernel
theorem dX0_multiply_111 : decode cX0_multiply 111 = Except.ok (Instr.aload_n 2, 1) := by decide +kernel
theorem dX0_multiply_112 : decode cX0_multiply 112 = Except.ok (Instr.iconst 3, 1) := by decide +kernel
theorem dX0_multiply_113 : decode cX0_multiply 113 = Except.ok (Instr.aload_n 0, 1) := by decide +kernel
theorem dX0_multiply_114 : decode cX0_multiply 114 = Except.ok (Instr.iconst 0, 1) := by decide +kernel
theorem dX0_multiply_115 : decode cX0_multiply 115 = Except.ok (Instr.laload, 1) := by decide +kernel
theorem dX0_multiply_116 : decode cX0_multiply 116 = Except.ok (Instr.aload_n 1, 1) := by decide +kernel
theorem dX0_multiply_117 : decode cX0_multiply 117 = Except.ok (Instr.iconst 3, 1) := by decide +kernel
theorem dX0_multiply_118 : decode cX0_multiply 118 = Except.ok (Instr.laload, 1) := by decide +kernel
theorem dX0_multiply_119 : decode cX0_multiply 119 = Except.ok (Instr.lmul, 1) := by decide +kernel
theorem dX0_multiply_120 : decode cX0_multiply 120 = Except.ok (Instr.aload_n 0, 1) := by decide +kernel
theorem dX0_multiply_121 : decode cX0_multiply 121 = Except.ok (Instr.iconst 1, 1) := by decide +kernel
theorem dX0_multiply_122 : decode cX0_multiply 122 = Except.ok (Instr.laload, 1) := by decide +kernel
theorem dX0_multiply_123 : decode cX0_multiply 123 = Except.ok (Instr.aload_n 1, 1) := by decide +kernel
theorem dX0_multiply_124 : decode cX0_multiply 124 = Except.ok (Instr.iconst 2, 1) := by decide +kernel
theorem dX0_multiply_125 : decode cX0_multiply 125 = Except.ok (Instr.laload, 1) := by decide +kernel
theorem dX0_multiply_126 : decode cX0_multiply 126 = Except.ok (Instr.lmul, 1) := by decide +kernel
theorem dX0_multiply_127 : decode cX0_multiply 127 = Except.ok (Instr.ladd, 1) := by decide +kernel
theorem dX0_multiply_128 : decode cX0_multiply 128 = Except.ok (Instr.aload_n 0, 1) := by decide +kernel
theorem dX0_multiply_129 : decode cX0_multiply 129 = Except.ok (Instr.iconst 2, 1) := by decide +kernel
theorem dX0_multiply_130 : decode cX0_multiply 130 = Except.ok (Instr.laload, 1) := by decide +kernel
theorem dX0_multiply_131 : decode cX0_multiply 131 = Except.ok (Instr.aload_n 1, 1) := by decide +kernel
theorem dX0_multiply_132 : decode cX0_multiply 132 = Except.ok (Instr.iconst 1, 1) := by decide +kernel
theorem dX0_multiply_133 : decode cX0_multiply 133 = Except.ok (Instr.laload, 1) := by decide +kernel
theorem dX0_multiply_134 : decode cX0_multiply 134 = Except.ok (Instr.lmul, 1) := by decide +kernel
theorem dX0_multiply_135 : decode cX0_multiply 135 = Except.ok (Instr.lsub, 1) := by decide +kernel
theorem dX0_multiply_136 : decode cX0_multiply 136 = Except.ok (Instr.aload_n 0, 1) := by decide +kernel
theorem dX0_multiply_137 : decode cX0_multiply 137 = Except.ok (Instr.iconst 3, 1) := by decide +kernel
theorem dX0_multiply_138 : decode cX0_multiply 138 = Except.ok (Instr.laload, 1) := by decide +kernel
theorem dX0_multiply_139 : decode cX0_multiply 139 = Except.ok (Instr.aload_n 1, 1) := by decide +kernel
theorem dX0_multiply_140 : decode cX0_multiply 140 = Except.ok (Instr.iconst 0, 1) := by decide +kernel
theorem dX0_multiply_141 : decode cX0_multiply 141 = Except.ok (Instr.laload, 1) := by decide +kernel
theorem dX0_multiply_142 : decode cX0_multiply 142 = Except.ok (Instr.lmul, 1) := by decide +kernel
theorem dX0_multiply_143 : decode cX0_multiply 143 = Except.ok (Instr.ladd, 1) := by decide +kernel
theorem dX0_multiply_144 : decode cX0_multiply 144 = Except.ok (Instr.bipush 28, 2) := by decide +kernel
theorem dX0_multiply_146 : decode cX0_multiply 146 = Except.ok (Instr.lshr, 1) := by decide +kernel
theorem dX0_multiply_147 : decode cX0_multiply 147 = Except.ok (Instr.lastore, 1) := by decide +kernel
theorem dX0_multiply_148 : decode cX0_multiply 148 = Except.ok (Instr.return_, 1) := by decide +kernel
theorem dX0_makeMatrix_0 : decode cX0_makeMatrix 0 = Except.ok (Instr.aload_n 0, 1) := by decide +kernel
theorem dX0_makeMatrix_1 : decode cX0_makeMatrix 1 = Except.ok (Instr.getfield 9, 3) := by decide +kernel
theorem dX0_makeMatrix_4 : decode cX0_makeMatrix 4 = Except.ok (Instr.iconst 0, 1) := by decide +kernel
theorem dX0_makeMatrix_5 : decode cX0_makeMatrix 5 = Except.ok (Instr.laload, 1) := by decide +kernel
theorem dX0_makeMatrix_6 : decode cX0_makeMatrix 6 = Except.ok (Instr.lstore_n 1, 1) := by decide +kernel
theorem dX0_makeMatrix_7 : decode cX0_makeMatrix 7 = Except.ok (Instr.aload_n 0, 1) := by decide +kernel
theorem dX0_makeMatrix_8 : decode cX0_makeMatrix 8 = Except.ok (Instr.getfield 9, 3) := by decide +kernel
theorem dX0_makeMatrix_11 : decode cX0_makeMatrix 11 = Except.ok (Instr.iconst 1, 1) := by decide +kernel
theorem dX0_makeMatrix_12 : decode cX0_makeMatrix 12 = Except.ok (Instr.laload, 1) := by decide +kernel
theorem dX0_makeMatrix_13 : decode cX0_makeMatrix 13 = Except.ok (Instr.lstore_n 3, 1) := by decide +kernel
theorem dX0_makeMatrix_14 : decode cX0_makeMatrix 14 = Except.ok (Instr.aload_n 0, 1) := by decide +kernel
theorem dX0_makeMatrix_15 : decode cX0_makeMatrix 15 = Except.ok (Instr.getfield 9, 3) := by decide +kernel
theorem dX0_makeMatrix_18 : decode cX0_makeMatrix 18 = Except.ok (Instr.iconst 2, 1) := by decide +kernel
theorem dX0_makeMatrix_19 : decode cX0_makeMatrix 19 = Except.ok (Instr.laload, 1) := by decide +kernel
theorem dX0_makeMatrix_20 : decode cX0_makeMatrix 20 = Except.ok (Instr.lstore 5, 2) := by decide +kernel
theorem dX0_makeMatrix_22 : decode cX0_makeMatrix 22 = Except.ok (Instr.aload_n 0, 1) := by decide +kernel
theorem dX0_makeMatrix_23 : decode cX0_makeMatrix 23 = Except.ok (Instr.getfield 9, 3) := by decide +kernel
theorem dX0_makeMatrix_26 : decode cX0_makeMatrix 26 = Except.ok (Instr.iconst 3, 1) := by decide +kernel
theorem dX0_makeMatrix_27 : decode cX0_makeMatrix 27 = Except.ok (Instr.laload, 1) := by decide +kernel
theorem dX0_makeMatrix_28 : decode cX0_makeMatrix 28 = Except.ok (Instr.lstore 7, 2) := by decide +kernel
theorem dX0_makeMatrix_30 : decode cX0_makeMatrix 30 = Except.ok (Instr.aload_n 0, 1) := by decide +kernel
theorem dX0_makeMatrix_31 : decode cX0_makeMatrix 31 = Except.ok (Instr.getfield 26, 3) := by decide +kernel
theorem dX0_makeMatrix_34 : decode cX0_makeMatrix 34 = Except.ok (Instr.iconst 0, 1) := by decide +kernel
theorem dX0_makeMatrix_35 : decode cX0_makeMatrix 35 = Except.ok (Instr.aaload, 1) := by decide +kernel
theorem dX0_makeMatrix_36 : decode cX0_makeMatrix 36 = Except.ok (Instr.iconst 0, 1) := by decide +kernel
theorem dX0_makeMatrix_37 : decode cX0_makeMatrix 37 = Except.ok (Instr.ldc2_w 38, 3) := by decide +kernel
theorem dX0_makeMatrix_40 : decode cX0_makeMatrix 40 = Except.ok (Instr.ldc2_w 68, 3) := by decide +kernel
theorem dX0_makeMatrix_43 : decode cX0_makeMatrix 43 = Except.ok (Instr.lload 5, 2) := by decide +kernel
theorem dX0_makeMatrix_45 : decode cX0_makeMatrix 45 = Except.ok (Instr.lload 5, 2) := by decide +kernel
theorem dX0_makeMatrix_47 : decode cX0_makeMatrix 47 = Except.ok (Instr.lmul, 1) := by decide +kernel
theorem dX0_makeMatrix_48 : decode cX0_makeMatrix 48 = Except.ok (Instr.lload 7, 2) := by decide +kernel
theorem dX0_makeMatrix_50 : decode cX0_makeMatrix 50 = Except.ok (Instr.lload 7, 2) := by decide +kernel
theorem dX0_makeMatrix_52 : decode cX0_makeMatrix 52 = Except.ok (Instr.lmul, 1) := by decide +kernel
theorem dX0_makeMatrix_53 : decode cX0_makeMatrix 53 = Except.ok (Instr.ladd, 1) := by decide +kernel
theorem dX0_makeMatrix_54 : decode cX0_makeMatrix 54 = Except.ok (Instr.bipush 28, 2) := by decide +kernel
theorem dX0_makeMatrix_56 : decode cX0_makeMatrix 56 = Except.ok (Instr.lshr, 1) := by decide +kernel
theorem dX0_makeMatrix_57 : decode cX0_makeMatrix 57 = Except.ok (Instr.lmul, 1) := by decide +kernel
theorem dX0_makeMatrix_58 : decode cX0_makeMatrix 58 = Except.ok (Instr.lsub, 1) := by decide +kernel
theorem dX0_makeMatrix_59 : decode cX0_makeMatrix 59 = Except.ok (Instr.lastore, 1) := by decide +kernel
theorem dX0_makeMatrix_60 : decode cX0_makeMatrix 60 = Except.ok (Instr.aload_n 0, 1) := by decide +kernel
theorem dX0_makeMatrix_61 : decode cX0_makeMatrix 61 = Except.ok (Instr.getfield 26, 3) := by decide +kernel
theorem dX0_makeMatrix_64 : decode cX0_makeMatrix 64 = Except.ok (Instr.iconst 0, 1) := by decide +kernel
theorem dX0_makeMatrix_65 : decode cX0_makeMatrix 65 = Except.ok (Instr.aaload, 1) := by decide +kernel
theorem dX0_makeMatrix_66 : decode cX0_makeMatrix 66 = Except.ok (Instr.iconst 1, 1) := by decide +kernel
theorem dX0_makeMatrix_67 : decode cX0_makeMatrix 67 = Except.ok (Instr.ldc2_w 68, 3) := by decide +kernel
theorem dX0_makeMatrix_70 : decode cX0_makeMatrix 70 = Except.ok (Instr.lload_n 3, 1) := by decide +kernel
theorem dX0_makeMatrix_71 : decode cX0_makeMatrix 71 = Except.ok (Instr.lload 5, 2) := by decide +kernel
theorem dX0_makeMatrix_73 : decode cX0_makeMatrix 73 = Except.ok (Instr.lmul, 1) := by decide +kernel
theorem dX0_makeMatrix_74 : decode cX0_makeMatrix 74 = Except.ok (Instr.lload_n 1, 1) := by decide +kernel
theorem dX0_makeMatrix_75 : decode cX0_makeMatrix 75 = Except.ok (Instr.lload 7, 2) := by decide +kernel
theorem dX0_makeMatrix_77 : decode cX0_makeMatrix 77 = Except.ok (Instr.lmul, 1) := by decide +kernel
theorem dX0_makeMatrix_78 : decode cX0_makeMatrix 78 = Except.ok (Instr.lsub, 1) := by decide +kernel
theorem dX0_makeMatrix_79 : decode cX0_makeMatrix 79 = Except.ok (Instr.bipush 28, 2) := by decide +kernel
theorem dX0_makeMatrix_81 : decode cX0_makeMatrix 81 = Except.ok (Instr.lshr, 1) := by decide +kernel
theorem dX0_makeMatrix_82 : decode cX0_makeMatrix 82 = Except.ok (Instr.lmul, 1) := by decide +kernel
theorem dX0_makeMatrix_83 : decode cX0_makeMatrix 83 = Except.ok (Instr.lastore, 1) := by decide +kernel
theorem dX0_makeMatrix_84 : decode cX0_makeMatrix 84 = Except.ok (Instr.aload_n 0, 1) := by decide +kernel
theorem dX0_makeMatrix_85 : decode cX0_makeMatrix 85 = Except.ok (Instr.getfield 26, 3) := by decide +kernel
theorem dX0_makeMatrix_88 : decode cX0_makeMatrix 88 = Except.ok (Instr.iconst 0, 1) := by decide +kernel
theorem dX0_makeMatrix_89 : decode cX0_makeMatrix 89 = Except.ok (Instr.aaload, 1) := by decide +kernel
theorem dX0_makeMatrix_90 : decode cX0_makeMatrix 90 = Except.ok (Instr.iconst 2, 1) := by decide +kernel
theorem dX0_makeMatrix_91 : decode cX0_makeMatrix 91 = Except.ok (Instr.ldc2_w 68, 3) := by decide +kernel
theorem dX0_makeMatrix_94 : decode cX0_makeMatrix 94 = Except.ok (Instr.lload_n 3, 1) := by decide +kernel
theorem dX0_makeMatrix_95 : decode cX0_makeMatrix 95 = Except.ok (Instr.lload 7, 2) := by decide +kernel
theorem dX0_makeMatrix_97 : decode cX0_makeMatrix 97 = Except.ok (Instr.lmul, 1) := by decide +kernel
theorem dX0_makeMatrix_98 : decode cX0_makeMatrix 98 = Except.ok (Instr.lload_n 1, 1) := by decide +kernel
theorem dX0_makeMatrix_99 : decode cX0_makeMatrix 99 = Except.ok (Instr.lload 5, 2) := by decide +kernel
theorem dX0_makeMatrix_101 : decode cX0_makeMatrix 101 = Except.ok (Instr.lmul, 1) := by decide +kernel
theorem dX0_makeMatrix_102 : decode cX0_makeMatrix 102 = Except.ok (Instr.ladd, 1) := by decide +kernel
theorem dX0_makeMatrix_103 : decode cX0_makeMatrix 103 = Except.ok (Instr.bipush 28, 2) := by decide +kernel
theorem dX0_makeMatrix_105 : decode cX0_makeMatrix 105 = Except.ok (Instr.lshr, 1) := by decide +kernel
theorem dX0_makeMatrix_106 : decode cX0_makeMatrix 106 = Except.ok (Instr.lmul, 1) := by decide +kernel
theorem dX0_makeMatrix_107 : decode cX0_makeMatrix 107 = Except.ok (Instr.lastore, 1) := by decide +kernel
theorem dX0_makeMatrix_108 : decode cX0_makeMatrix 108 = Except.ok (Instr.aload_n 0, 1) := by decide +kernel
theorem dX0_makeMatrix_109 : decode cX0_makeMatrix 109 = Except.ok (Instr.getfield 26, 3) := by decide +kernel
theorem dX0_makeMatrix_112 : decode cX0_makeMatrix 112 = Except.ok (Instr.iconst 1, 1) := by decide +kernel
theorem dX0_makeMatrix_113 : decode cX0_makeMatrix 113 = Except.ok (Instr.aaload, 1) := by decide +kernel
theorem dX0_makeMatrix_114 : decode cX0_makeMatrix 114 = Except.ok (Instr.iconst 0, 1) := by decide +kernel
theorem dX0_makeMatrix_115 : decode cX0_makeMatrix 115 = Except.ok (Instr.ldc2_w 68, 3) := by decide +kernel
theorem dX0_makeMatrix_118 : decode cX0_makeMatrix 118 = Except.ok (Instr.lload_n 3, 1) := by decide +kernel
theorem dX0_makeMatrix_119 : decode cX0_makeMatrix 119 = Except.ok (Instr.lload 5, 2) := by decide +kernel
theorem dX0_makeMatrix_121 : decode cX0_makeMatrix 121 = Except.ok (Instr.lmul, 1) := by decide +kernel
theorem dX0_makeMatrix_122 : decode cX0_makeMatrix 122 = Except.ok (Instr.lload_n 1, 1) := by decide +kernel
theorem dX0_makeMatrix_123 : decode cX0_makeMatrix 123 = Except.ok (Instr.lload 7, 2) := by decide +kernel
theorem dX0_makeMatrix_125 : decode cX0_makeMatrix 125 = Except.ok (Instr.lmul, 1) := by decide +kernel
theorem dX0_makeMatrix_126 : decode cX0_makeMatrix 126 = Except.ok (Instr.ladd, 1) := by decide +kernel
theorem dX0_makeMatrix_127 : decode cX0_makeMatrix 127 = Except.ok (Instr.bipush 28, 2) := by decide +kernel
theorem dX0_makeMatrix_129 : decode cX0_makeMatrix 129 = Except.ok (Instr.lshr, 1) := by decide +kernel
theorem dX0_makeMatrix_130 : decode cX0_makeMatrix 130 = Except.ok (Instr.lmul, 1) := by decide +kernel
theorem dX0_makeMatrix_131 : decode cX0_makeMatrix 131 = Except.ok (Instr.lastore, 1) := by decide +kernel
theorem dX0_makeMatrix_132 : decode cX0_makeMatrix 132 = Except.ok (Instr.aload_n 0, 1) := by decide +kernel
theorem dX0_makeMatrix_133 : decode cX0_makeMatrix 133 = Except.ok (Instr.getfield 26, 3) := by decide +kernel
theorem dX0_makeMatrix_136 : decode cX0_makeMatrix 136 = Except.ok (Instr.iconst 1, 1) := by decide +kernel
theorem dX0_makeMatrix_137 : decode cX0_makeMatrix 137 = Except.ok (Instr.aaload, 1) := by decide +kernel
theorem dX0_makeMatrix_138 : decode cX0_makeMatrix 138 = Except.ok (Instr.iconst 1, 1) := by decide +kernel
theorem dX0_makeMatrix_139 : decode cX0_makeMatrix 139 = Except.ok (Instr.ldc2_w 38, 3) := by decide +kernel
theorem dX0_makeMatrix_142 : decode cX0_makeMatrix 142 = Except.ok (Instr.ldc2_w 68, 3) := by decide +kernel
theorem dX0_makeMatrix_145 : decode cX0_makeMatrix 145 = Except.ok (Instr.lload_n 3, 1) := by decide +kernel
theorem dX0_makeMatrix_146 : decode cX0_makeMatrix 146 = Except.ok (Instr.lload_n 3, 1) := by decide +kernel
theorem dX0_makeMatrix_147 : decode cX0_makeMatrix 147 = Except.ok (Instr.lmul, 1) := by decide +kernel
theorem dX0_makeMatrix_148 : decode cX0_makeMatrix 148 = Except.ok (Instr.lload 7, 2) := by decide +kernel
theorem dX0_makeMatrix_150 : decode cX0_makeMatrix 150 = Except.ok (Instr.lload 7, 2) := by decide +kernel
theorem dX0_makeMatrix_152 : decode cX0_makeMatrix 152 = Except.ok (Instr.lmul, 1) := by decide +kernel
theorem dX0_makeMatrix_153 : decode cX0_makeMatrix 153 = Except.ok (Instr.ladd, 1) := by decide +kernel
theorem dX0_makeMatrix_154 : decode cX0_makeMatrix 154 = Except.ok (Instr.bipush 28, 2) := by decide +kernel
theorem dX0_makeMatrix_156 : decode cX0_makeMatrix 156 = Except.ok (Instr.lshr, 1) := by decide +kernel
theorem dX0_makeMatrix_157 : decode cX0_makeMatrix 157 = Except.ok (Instr.lmul, 1) := by decide +kernel
theorem dX0_makeMatrix_158 : decode cX0_makeMatrix 158 = Except.ok (Instr.lsub, 1) := by decide +kernel
theorem dX0_makeMatrix_159 : decode cX0_makeMatrix 159 = Except.ok (Instr.lastore, 1) := by decide +kernel
theorem dX0_makeMatrix_160 : decode cX0_makeMatrix 160 = Except.ok (Instr.aload_n 0, 1) := by decide +kernel
theorem dX0_makeMatrix_161 : decode cX0_makeMatrix 161 = Except.ok (Instr.getfield 26, 3) := by decide +kernel
theorem dX0_makeMatrix_164 : decode cX0_makeMatrix 164 = Except.ok (Instr.iconst 1, 1) := by decide +kernel
theorem dX0_makeMatrix_165 : decode cX0_makeMatrix 165 = Except.ok (Instr.aaload, 1) := by decide +kernel
theorem dX0_makeMatrix_166 : decode cX0_makeMatrix 166 = Except.ok (Instr.iconst 2, 1) := by decide +kernel
theorem dX0_makeMatrix_167 : decode cX0_makeMatrix 167 = Except.ok (Instr.ldc2_w 68, 3) := by decide +kernel
theorem dX0_makeMatrix_170 : decode cX0_makeMatrix 170 = Except.ok (Instr.lload 5, 2) := by decide +kernel
theorem dX0_makeMatrix_172 : decode cX0_makeMatrix 172 = Except.ok (Instr.lload 7, 2) := by decide +kernel
theorem dX0_makeMatrix_174 : decode cX0_makeMatrix 174 = Except.ok (Instr.lmul, 1) := by decide +kernel
theorem dX0_makeMatrix_175 : decode cX0_makeMatrix 175 = Except.ok (Instr.lload_n 1, 1) := by decide +kernel
theorem dX0_makeMatrix_176 : decode cX0_makeMatrix 176 = Except.ok (Instr.lload_n 3, 1) := by decide +kernel
theorem dX0_makeMatrix_177 : decode cX0_makeMatrix 177 = Except.ok (Instr.lmul, 1) := by decide +kernel
theorem dX0_makeMatrix_178 : decode cX0_makeMatrix 178 = Except.ok (Instr.lsub, 1) := by decide +kernel
theorem dX0_makeMatrix_179 : decode cX0_makeMatrix 179 = Except.ok (Instr.bipush 28, 2) := by decide +kernel
theorem dX0_makeMatrix_181 : decode cX0_makeMatrix 181 = Except.ok (Instr.lshr, 1) := by decide +kernel
theorem dX0_makeMatrix_182 : decode cX0_makeMatrix 182 = Except.ok (Instr.lmul, 1) := by decide +kernel
theorem dX0_makeMatrix_183 : decode cX0_makeMatrix 183 = Except.ok (Instr.lastore, 1) := by decide +kernel
theorem dX0_makeMatrix_184 : decode cX0_makeMatrix 184 = Except.ok (Instr.aload_n 0, 1) := by decide +kernel
theorem dX0_makeMatrix_185 : decode cX0_makeMatrix 185 = Except.ok (Instr.getfield 26, 3) := by decide +kernel
theorem dX0_makeMatrix_188 : decode cX0_makeMatrix 188 = Except.ok (Instr.iconst 2, 1) := by decide +kernel
theorem dX0_makeMatrix_189 : decode cX0_makeMatrix 189 = Except.ok (Instr.aaload, 1) := by decide +kernel
theorem dX0_makeMatrix_190 : decode cX0_makeMatrix 190 = Except.ok (Instr.iconst 0, 1) := by decide +kernel
theorem dX0_makeMatrix_191 : decode cX0_makeMatrix 191 = Except.ok (Instr.ldc2_w 68, 3) := by decide +kernel
theorem dX0_makeMatrix_194 : decode cX0_makeMatrix 194 = Except.ok (Instr.lload_n 3, 1) := by decide +kernel
theorem dX0_makeMatrix_195 : decode cX0_makeMatrix 195 = Except.ok (Instr.lload 7, 2) := by decide +kernel
theorem dX0_makeMatrix_197 : decode cX0_makeMatrix 197 = Except.ok (Instr.lmul, 1) := by decide +kernel
theorem dX0_makeMatrix_198 : decode cX0_makeMatrix 198 = Except.ok (Instr.lload_n 1, 1) := by decide +kernel
theorem dX0_makeMatrix_199 : decode cX0_makeMatrix 199 = Except.ok (Instr.lload 5, 2) := by decide +kernel
theorem dX0_makeMatrix_201 : decode cX0_makeMatrix 201 = Except.ok (Instr.lmul, 1) := by decide +kernel
theorem dX0_makeMatrix_202 : decode cX0_makeMatrix 202 = Except.ok (Instr.lsub, 1) := by decide +kernel
theorem dX0_makeMatrix_203 : decode cX0_makeMatrix 203 = Except.ok (Instr.bipush 28, 2) := by decide +kernel
theorem dX0_makeMatrix_205 : decode cX0_makeMatrix 205 = Except.ok (Instr.lshr, 1) := by decide +kernel
theorem dX0_makeMatrix_206 : decode cX0_makeMatrix 206 = Except.ok (Instr.lmul, 1) := by decide +kernel
theorem dX0_makeMatrix_207 : decode cX0_makeMatrix 207 = Except.ok (Instr.lastore, 1) := by decide +kernel
theorem dX0_makeMatrix_208 : decode cX0_makeMatrix 208 = Except.ok (Instr.aload_n 0, 1) := by decide +kernel
theorem dX0_makeMatrix_209 : decode cX0_makeMatrix 209 = Except.ok (Instr.getfield 26, 3) := by decide +kernel
theorem dX0_makeMatrix_212 : decode cX0_makeMatrix 212 = Except.ok (Instr.iconst 2, 1) := by decide +kernel
theorem dX0_makeMatrix_213 : decode cX0_makeMatrix 213 = Except.ok (Instr.aaload, 1) := by decide +kernel
theorem dX0_makeMatrix_214 : decode cX0_makeMatrix 214 = Except.ok (Instr.iconst 1, 1) := by decide +kernel
theorem dX0_makeMatrix_215 : decode cX0_makeMatrix 215 = Except.ok (Instr.ldc2_w 68, 3) := by decide +kernel
theorem dX0_makeMatrix_218 : decode cX0_makeMatrix 218 = Except.ok (Instr.lload 5, 2) := by decide +kernel
theorem dX0_makeMatrix_220 : decode cX0_makeMatrix 220 = Except.ok (Instr.lload 7, 2) := by decide +kernel
theorem dX0_makeMatrix_222 : decode cX0_makeMatrix 222 = Except.ok (Instr.lmul, 1) := by decide +kernel
theorem dX0_makeMatrix_223 : decode cX0_makeMatrix 223 = Except.ok (Instr.lload_n 1, 1) := by decide +kernel
theorem dX0_makeMatrix_224 : decode cX0_makeMatrix 224 = Except.ok (Instr.lload_n 3, 1) := by decide +kernel
theorem dX0_makeMatrix_225 : decode cX0_makeMatrix 225 = Except.ok (Instr.lmul, 1) := by decide +kernel
theorem dX0_makeMatrix_226 : decode cX0_makeMatrix 226 = Except.ok (Instr.ladd, 1) := by decide +kernel
theorem dX0_makeMatrix_227 : decode cX0_makeMatrix 227 = Except.ok (Instr.bipush 28, 2) := by decide +kernel
theorem dX0_makeMatrix_229 : decode cX0_makeMatrix 229 = Except.ok (Instr.lshr, 1) := by decide +kernel
theorem dX0_makeMatrix_230 : decode cX0_makeMatrix 230 = Except.ok (Instr.lmul, 1) := by decide +kernel
theorem dX0_makeMatrix_231 : decode cX0_makeMatrix 231 = Except.ok (Instr.lastore, 1) := by decide +kernel
theorem dX0_makeMatrix_232 : decode cX0_makeMatrix 232 = Except.ok (Instr.aload_n 0, 1) := by decide +kernel
theorem dX0_makeMatrix_233 : decode cX0_makeMatrix 233 = Except.ok (Instr.getfield 26, 3) := by decide +kernel
theorem dX0_makeMatrix_236 : decode cX0_makeMatrix 236 = Except.ok (Instr.iconst 2, 1) := by decide +kernel
theorem dX0_makeMatrix_237 : decode cX0_makeMatrix 237 = Except.ok (Instr.aaload, 1) := by decide +kernel
theorem dX0_makeMatrix_238 : decode cX0_makeMatrix 238 = Except.ok (Instr.iconst 2, 1) := by decide +kernel
theorem dX0_makeMatrix_239 : decode cX0_makeMatrix 239 = Except.ok (Instr.ldc2_w 38, 3) := by decide +kernel
theorem dX0_makeMatrix_242 : decode cX0_makeMatrix 242 = Except.ok (Instr.ldc2_w 68, 3) := by decide +kernel
theorem dX0_makeMatrix_245 : decode cX0_makeMatrix 245 = Except.ok (Instr.lload_n 3, 1) := by decide +kernel
theorem dX0_makeMatrix_246 : decode cX0_makeMatrix 246 = Except.ok (Instr.lload_n 3, 1) := by decide +kernel
theorem dX0_makeMatrix_247 : decode cX0_makeMatrix 247 = Except.ok (Instr.lmul, 1) := by decide +kernel
theorem dX0_makeMatrix_248 : decode cX0_makeMatrix 248 = Except.ok (Instr.lload 5, 2) := by decide +kernel
theorem dX0_makeMatrix_250 : decode cX0_makeMatrix 250 = Except.ok (Instr.lload 5, 2) := by decide +kernel
theorem dX0_makeMatrix_252 : decode cX0_makeMatrix 252 = Except.ok (Instr.lmul, 1) := by decide +kernel
theorem dX0_makeMatrix_253 : decode cX0_makeMatrix 253 = Except.ok (Instr.ladd, 1) := by decide +kernel
theorem dX0_makeMatrix_254 : decode cX0_makeMatrix 254 = Except.ok (Instr.bipush 28, 2) := by decide +kernel
theorem dX0_makeMatrix_256 : decode cX0_makeMatrix 256 = Except.ok (Instr.lshr, 1) := by decide +kernel
theorem dX0_makeMatrix_257 : decode cX0_makeMatrix 257 = Except.ok (Instr.lmul, 1) := by decide +kernel
theorem dX0_makeMatrix_258 : decode cX0_makeMatrix 258 = Except.ok (Instr.lsub, 1) := by decide +kernel
theorem dX0_makeMatrix_259 : decode cX0_makeMatrix 259 = Except.ok (Instr.lastore, 1) := by decide +kernel
theorem dX0_makeMatrix_260 : decode cX0_makeMatrix 260 = Except.ok (Instr.return_, 1) := by decide +kernel
theorem dX0_navigationComponent_0 : decode cX0_navigationComponent 0 = Except.ok (Instr.iload 7, 2) := by decide +kernel
theorem dX0_navigationComponent_2 : decode cX0_navigationComponent 2 = Except.ok (Instr.invokestatic 70, 3) := by decide +kernel
theorem dX0_navigationComponent_5 : decode cX0_navigationComponent 5 = Except.ok (Instr.ifCond .ne 5, 3) := by decide +kernel
theorem dX0_navigationComponent_8 : decode cX0_navigationComponent 8 = Except.ok (Instr.lconst 0, 1) := by decide +kernel
theorem dX0_navigationComponent_9 : decode cX0_navigationComponent 9 = Except.ok (Instr.lreturn, 1) := by decide +kernel
theorem dX0_navigationComponent_10 : decode cX0_navigationComponent 10 = Except.ok (Instr.aload_n 0, 1) := by decide +kernel
theorem dX0_navigationComponent_11 : decode cX0_navigationComponent 11 = Except.ok (Instr.getfield 26, 3) := by decide +kernel
theorem dX0_navigationComponent_14 : decode cX0_navigationComponent 14 = Except.ok (Instr.iload 7, 2) := by decide +kernel
theorem dX0_navigationComponent_16 : decode cX0_navigationComponent 16 = Except.ok (Instr.aaload, 1) := by decide +kernel
theorem dX0_navigationComponent_17 : decode cX0_navigationComponent 17 = Except.ok (Instr.iconst 0, 1) := by decide +kernel
theorem dX0_navigationComponent_18 : decode cX0_navigationComponent 18 = Except.ok (Instr.laload, 1) := by decide +kernel
theorem dX0_navigationComponent_19 : decode cX0_navigationComponent 19 = Except.ok (Instr.lload_n 1, 1) := by decide +kernel
theorem dX0_navigationComponent_20 : decode cX0_navigationComponent 20 = Except.ok (Instr.lmul, 1) := by decide +kernel
theorem dX0_navigationComponent_21 : decode cX0_navigationComponent 21 = Except.ok (Instr.aload_n 0, 1) := by decide +kernel
theorem dX0_navigationComponent_22 : decode cX0_navigationComponent 22 = Except.ok (Instr.getfield 26, 3) := by decide +kernel
theorem dX0_navigationComponent_25 : decode cX0_navigationComponent 25 = Except.ok (Instr.iload 7, 2) := by decide +kernel
theorem dX0_navigationComponent_27 : decode cX0_navigationComponent 27 = Except.ok (Instr.aaload, 1) := by decide +kernel
theorem dX0_navigationComponent_28 : decode cX0_navigationComponent 28 = Except.ok (Instr.iconst 1, 1) := by decide +kernel
theorem dX0_navigationComponent_29 : decode cX0_navigationComponent 29 = Except.ok (Instr.laload, 1) := by decide +kernel
theorem dX0_navigationComponent_30 : decode cX0_navigationComponent 30 = Except.ok (Instr.lload_n 3, 1) := by decide +kernel
theorem dX0_navigationComponent_31 : decode cX0_navigationComponent 31 = Except.ok (Instr.lmul, 1) := by decide +kernel
theorem dX0_navigationComponent_32 : decode cX0_navigationComponent 32 = Except.ok (Instr.ladd, 1) := by decide +kernel
theorem dX0_navigationComponent_33 : decode cX0_navigationComponent 33 = Except.ok (Instr.aload_n 0, 1) := by decide +kernel
theorem dX0_navigationComponent_34 : decode cX0_navigationComponent 34 = Except.ok (Instr.getfield 26, 3) := by decide +kernel
theorem dX0_navigationComponent_37 : decode cX0_navigationComponent 37 = Except.ok (Instr.iload 7, 2) := by decide +kernel
theorem dX0_navigationComponent_39 : decode cX0_navigationComponent 39 = Except.ok (Instr.aaload, 1) := by decide +kernel
theorem dX0_navigationComponent_40 : decode cX0_navigationComponent 40 = Except.ok (Instr.iconst 2, 1) := by decide +kernel
theorem dX0_navigationComponent_41 : decode cX0_navigationComponent 41 = Except.ok (Instr.laload, 1) := by decide +kernel
theorem dX0_navigationComponent_42 : decode cX0_navigationComponent 42 = Except.ok (Instr.lload 5, 2) := by decide +kernel
theorem dX0_navigationComponent_44 : decode cX0_navigationComponent 44 = Except.ok (Instr.lmul, 1) := by decide +kernel
theorem dX0_navigationComponent_45 : decode cX0_navigationComponent 45 = Except.ok (Instr.ladd, 1) := by decide +kernel
theorem dX0_navigationComponent_46 : decode cX0_navigationComponent 46 = Except.ok (Instr.bipush 28, 2) := by decide +kernel
theorem dX0_navigationComponent_48 : decode cX0_navigationComponent 48 = Except.ok (Instr.lshr, 1) := by decide +kernel
theorem dX0_navigationComponent_49 : decode cX0_navigationComponent 49 = Except.ok (Instr.lreturn, 1) := by decide +kernel
theorem dX0_bodyComponent_0 : decode cX0_bodyComponent 0 = Except.ok (Instr.iload 7, 2) := by decide +kernel
theorem dX0_bodyComponent_2 : decode cX0_bodyComponent 2 = Except.ok (Instr.invokestatic 70, 3) := by decide +kernel
theorem dX0_bodyComponent_5 : decode cX0_bodyComponent 5 = Except.ok (Instr.ifCond .ne 5, 3) := by decide +kernel
theorem dX0_bodyComponent_8 : decode cX0_bodyComponent 8 = Except.ok (Instr.lconst 0, 1) := by decide +kernel
theorem dX0_bodyComponent_9 : decode cX0_bodyComponent 9 = Except.ok (Instr.lreturn, 1) := by decide +kernel
theorem dX0_bodyComponent_10 : decode cX0_bodyComponent 10 = Except.ok (Instr.aload_n 0, 1) := by decide +kernel
theorem dX0_bodyComponent_11 : decode cX0_bodyComponent 11 = Except.ok (Instr.getfield 26, 3) := by decide +kernel
theorem dX0_bodyComponent_14 : decode cX0_bodyComponent 14 = Except.ok (Instr.iconst 0, 1) := by decide +kernel
theorem dX0_bodyComponent_15 : decode cX0_bodyComponent 15 = Except.ok (Instr.aaload, 1) := by decide +kernel
theorem dX0_bodyComponent_16 : decode cX0_bodyComponent 16 = Except.ok (Instr.iload 7, 2) := by decide +kernel
theorem dX0_bodyComponent_18 : decode cX0_bodyComponent 18 = Except.ok (Instr.laload, 1) := by decide +kernel
theorem dX0_bodyComponent_19 : decode cX0_bodyComponent 19 = Except.ok (Instr.lload_n 1, 1) := by decide +kernel
theorem dX0_bodyComponent_20 : decode cX0_bodyComponent 20 = Except.ok (Instr.lmul, 1) := by decide +kernel
theorem dX0_bodyComponent_21 : decode cX0_bodyComponent 21 = Except.ok (Instr.aload_n 0, 1) := by decide +kernel
theorem dX0_bodyComponent_22 : decode cX0_bodyComponent 22 = Except.ok (Instr.getfield 26, 3) := by decide +kernel
theorem dX0_bodyComponent_25 : decode cX0_bodyComponent 25 = Except.ok (Instr.iconst 1, 1) := by decide +kernel
theorem dX0_bodyComponent_26 : decode cX0_bodyComponent 26 = Except.ok (Instr.aaload, 1) := by decide +kernel
theorem dX0_bodyComponent_27 : decode cX0_bodyComponent 27 = Except.ok (Instr.iload 7, 2) := by decide +kernel
theorem dX0_bodyComponent_29 : decode cX0_bodyComponent 29 = Except.ok (Instr.laload, 1) := by decide +kernel
theorem dX0_bodyComponent_30 : decode cX0_bodyComponent 30 = Except.ok (Instr.lload_n 3, 1) := by decide +kernel
theorem dX0_bodyComponent_31 : decode cX0_bodyComponent 31 = Except.ok (Instr.lmul, 1) := by decide +kernel
theorem dX0_bodyComponent_32 : decode cX0_bodyComponent 32 = Except.ok (Instr.ladd, 1) := by decide +kernel
theorem dX0_bodyComponent_33 : decode cX0_bodyComponent 33 = Except.ok (Instr.aload_n 0, 1) := by decide +kernel
theorem dX0_bodyComponent_34 : decode cX0_bodyComponent 34 = Except.ok (Instr.getfield 26, 3) := by decide +kernel
theorem dX0_bodyComponent_37 : decode cX0_bodyComponent 37 = Except.ok (Instr.iconst 2, 1) := by decide +kernel
theorem dX0_bodyComponent_38 : decode cX0_bodyComponent 38 = Except.ok (Instr.aaload, 1) := by decide +kernel
theorem dX0_bodyComponent_39 : decode cX0_bodyComponent 39 = Except.ok (Instr.iload 7, 2) := by decide +kernel
theorem dX0_bodyComponent_41 : decode cX0_bodyComponent 41 = Except.ok (Instr.laload, 1) := by decide +kernel
theorem dX0_bodyComponent_42 : decode cX0_bodyComponent 42 = Except.ok (Instr.lload 5, 2) := by decide +kernel
theorem dX0_bodyComponent_44 : decode cX0_bodyComponent 44 = Except.ok (Instr.lmul, 1) := by decide +kernel
theorem dX0_bodyComponent_45 : decode cX0_bodyComponent 45 = Except.ok (Instr.ladd, 1) := by decide +kernel
theorem dX0_bodyComponent_46 : decode cX0_bodyComponent 46 = Except.ok (Instr.bipush 28, 2) := by decide +kernel
theorem dX0_bodyComponent_48 : decode cX0_bodyComponent 48 = Except.ok (Instr.lshr, 1) := by decide +kernel
theorem dX0_bodyComponent_49 : decode cX0_bodyComponent 49 = Except.ok (Instr.lreturn, 1) := by decide +kernel
theorem dX0_turnIntoBody_0 : decode cX0_turnIntoBody 0 = Except.ok (Instr.iconst 0, 1) := by decide +kernel
theorem dX0_turnIntoBody_1 : decode cX0_turnIntoBody 1 = Except.ok (Instr.istore_n 3, 1) := by decide +kernel
theorem dX0_turnIntoBody_2 : decode cX0_turnIntoBody 2 = Except.ok (Instr.iload_n 3, 1) := by decide +kernel
theorem dX0_turnIntoBody_3 : decode cX0_turnIntoBody 3 = Except.ok (Instr.iconst 3, 1) := by decide +kernel
theorem dX0_turnIntoBody_4 : decode cX0_turnIntoBody 4 = Except.ok (Instr.if_icmp .ge 26, 3) := by decide +kernel
theorem dX0_turnIntoBody_7 : decode cX0_turnIntoBody 7 = Except.ok (Instr.aload_n 2, 1) := by decide +kernel
theorem dX0_turnIntoBody_8 : decode cX0_turnIntoBody 8 = Except.ok (Instr.iload_n 3, 1) := by decide +kernel
theorem dX0_turnIntoBody_9 : decode cX0_turnIntoBody 9 = Except.ok (Instr.aload_n 0, 1) := by decide +kernel
theorem dX0_turnIntoBody_10 : decode cX0_turnIntoBody 10 = Except.ok (Instr.aload_n 1, 1) := by decide +kernel
theorem dX0_turnIntoBody_11 : decode cX0_turnIntoBody 11 = Except.ok (Instr.iconst 0, 1) := by decide +kernel
theorem dX0_turnIntoBody_12 : decode cX0_turnIntoBody 12 = Except.ok (Instr.laload, 1) := by decide +kernel
theorem dX0_turnIntoBody_13 : decode cX0_turnIntoBody 13 = Except.ok (Instr.aload_n 1, 1) := by decide +kernel
theorem dX0_turnIntoBody_14 : decode cX0_turnIntoBody 14 = Except.ok (Instr.iconst 1, 1) := by decide +kernel
theorem dX0_turnIntoBody_15 : decode cX0_turnIntoBody 15 = Except.ok (Instr.laload, 1) := by decide +kernel
theorem dX0_turnIntoBody_16 : decode cX0_turnIntoBody 16 = Except.ok (Instr.aload_n 1, 1) := by decide +kernel
theorem dX0_turnIntoBody_17 : decode cX0_turnIntoBody 17 = Except.ok (Instr.iconst 2, 1) := by decide +kernel
theorem dX0_turnIntoBody_18 : decode cX0_turnIntoBody 18 = Except.ok (Instr.laload, 1) := by decide +kernel
theorem dX0_turnIntoBody_19 : decode cX0_turnIntoBody 19 = Except.ok (Instr.iload_n 3, 1) := by decide +kernel
theorem dX0_turnIntoBody_20 : decode cX0_turnIntoBody 20 = Except.ok (Instr.invokevirtual 76, 3) := by decide +kernel
theorem dX0_turnIntoBody_23 : decode cX0_turnIntoBody 23 = Except.ok (Instr.lastore, 1) := by decide +kernel
theorem dX0_turnIntoBody_24 : decode cX0_turnIntoBody 24 = Except.ok (Instr.iinc 3 1, 3) := by decide +kernel
theorem dX0_turnIntoBody_27 : decode cX0_turnIntoBody 27 = Except.ok (Instr.goto (-25), 3) := by decide +kernel
theorem dX0_turnIntoBody_30 : decode cX0_turnIntoBody 30 = Except.ok (Instr.return_, 1) := by decide +kernel
theorem dX0_angleFrom_0 : decode cX0_angleFrom 0 = Except.ok (Instr.aload_n 0, 1) := by decide +kernel
theorem dX0_angleFrom_1 : decode cX0_angleFrom 1 = Except.ok (Instr.getfield 18, 3) := by decide +kernel
theorem dX0_angleFrom_4 : decode cX0_angleFrom 4 = Except.ok (Instr.iconst 0, 1) := by decide +kernel
theorem dX0_angleFrom_5 : decode cX0_angleFrom 5 = Except.ok (Instr.aload_n 1, 1) := by decide +kernel
theorem dX0_angleFrom_6 : decode cX0_angleFrom 6 = Except.ok (Instr.iconst 0, 1) := by decide +kernel
theorem dX0_angleFrom_7 : decode cX0_angleFrom 7 = Except.ok (Instr.laload, 1) := by decide +kernel
theorem dX0_angleFrom_8 : decode cX0_angleFrom 8 = Except.ok (Instr.lastore, 1) := by decide +kernel
theorem dX0_angleFrom_9 : decode cX0_angleFrom 9 = Except.ok (Instr.aload_n 0, 1) := by decide +kernel
theorem dX0_angleFrom_10 : decode cX0_angleFrom 10 = Except.ok (Instr.getfield 18, 3) := by decide +kernel
theorem dX0_angleFrom_13 : decode cX0_angleFrom 13 = Except.ok (Instr.iconst 1, 1) := by decide +kernel
theorem dX0_angleFrom_14 : decode cX0_angleFrom 14 = Except.ok (Instr.aload_n 1, 1) := by decide +kernel
theorem dX0_angleFrom_15 : decode cX0_angleFrom 15 = Except.ok (Instr.iconst 1, 1) := by decide +kernel
theorem dX0_angleFrom_16 : decode cX0_angleFrom 16 = Except.ok (Instr.laload, 1) := by decide +kernel
theorem dX0_angleFrom_17 : decode cX0_angleFrom 17 = Except.ok (Instr.lneg, 1) := by decide +kernel
theorem dX0_angleFrom_18 : decode cX0_angleFrom 18 = Except.ok (Instr.lastore, 1) := by decide +kernel
theorem dX0_angleFrom_19 : decode cX0_angleFrom 19 = Except.ok (Instr.aload_n 0, 1) := by decide +kernel
theorem dX0_angleFrom_20 : decode cX0_angleFrom 20 = Except.ok (Instr.getfield 18, 3) := by decide +kernel
theorem dX0_angleFrom_23 : decode cX0_angleFrom 23 = Except.ok (Instr.iconst 2, 1) := by decide +kernel
theorem dX0_angleFrom_24 : decode cX0_angleFrom 24 = Except.ok (Instr.aload_n 1, 1) := by decide +kernel
theorem dX0_angleFrom_25 : decode cX0_angleFrom 25 = Except.ok (Instr.iconst 2, 1) := by decide +kernel
theorem dX0_angleFrom_26 : decode cX0_angleFrom 26 = Except.ok (Instr.laload, 1) := by decide +kernel
theorem dX0_angleFrom_27 : decode cX0_angleFrom 27 = Except.ok (Instr.lneg, 1) := by decide +kernel
theorem dX0_angleFrom_28 : decode cX0_angleFrom 28 = Except.ok (Instr.lastore, 1) := by decide +kernel
theorem dX0_angleFrom_29 : decode cX0_angleFrom 29 = Except.ok (Instr.aload_n 0, 1) := by decide +kernel
theorem dX0_angleFrom_30 : decode cX0_angleFrom 30 = Except.ok (Instr.getfield 18, 3) := by decide +kernel
theorem dX0_angleFrom_33 : decode cX0_angleFrom 33 = Except.ok (Instr.iconst 3, 1) := by decide +kernel
theorem dX0_angleFrom_34 : decode cX0_angleFrom 34 = Except.ok (Instr.aload_n 1, 1) := by decide +kernel
theorem dX0_angleFrom_35 : decode cX0_angleFrom 35 = Except.ok (Instr.iconst 3, 1) := by decide +kernel
theorem dX0_angleFrom_36 : decode cX0_angleFrom 36 = Except.ok (Instr.laload, 1) := by decide +kernel
theorem dX0_angleFrom_37 : decode cX0_angleFrom 37 = Except.ok (Instr.lneg, 1) := by decide +kernel
theorem dX0_angleFrom_38 : decode cX0_angleFrom 38 = Except.ok (Instr.lastore, 1) := by decide +kernel
theorem dX0_angleFrom_39 : decode cX0_angleFrom 39 = Except.ok (Instr.aload_n 0, 1) := by decide +kernel
theorem dX0_angleFrom_40 : decode cX0_angleFrom 40 = Except.ok (Instr.getfield 18, 3) := by decide +kernel
theorem dX0_angleFrom_43 : decode cX0_angleFrom 43 = Except.ok (Instr.aload_n 0, 1) := by decide +kernel
theorem dX0_angleFrom_44 : decode cX0_angleFrom 44 = Except.ok (Instr.getfield 9, 3) := by decide +kernel
theorem dX0_angleFrom_47 : decode cX0_angleFrom 47 = Except.ok (Instr.aload_n 0, 1) := by decide +kernel
theorem dX0_angleFrom_48 : decode cX0_angleFrom 48 = Except.ok (Instr.getfield 21, 3) := by decide +kernel
theorem dX0_angleFrom_51 : decode cX0_angleFrom 51 = Except.ok (Instr.invokestatic 61, 3) := by decide +kernel
theorem dX0_angleFrom_54 : decode cX0_angleFrom 54 = Except.ok (Instr.ldc2_w 68, 3) := by decide +kernel
theorem dX0_angleFrom_57 : decode cX0_angleFrom 57 = Except.ok (Instr.aload_n 0, 1) := by decide +kernel
theorem dX0_angleFrom_58 : decode cX0_angleFrom 58 = Except.ok (Instr.getfield 21, 3) := by decide +kernel
theorem dX0_angleFrom_61 : decode cX0_angleFrom 61 = Except.ok (Instr.iconst 1, 1) := by decide +kernel
theorem dX0_angleFrom_62 : decode cX0_angleFrom 62 = Except.ok (Instr.laload, 1) := by decide +kernel
theorem dX0_angleFrom_63 : decode cX0_angleFrom 63 = Except.ok (Instr.aload_n 0, 1) := by decide +kernel
theorem dX0_angleFrom_64 : decode cX0_angleFrom 64 = Except.ok (Instr.getfield 21, 3) := by decide +kernel
theorem dX0_angleFrom_67 : decode cX0_angleFrom 67 = Except.ok (Instr.iconst 2, 1) := by decide +kernel
theorem dX0_angleFrom_68 : decode cX0_angleFrom 68 = Except.ok (Instr.laload, 1) := by decide +kernel
theorem dX0_angleFrom_69 : decode cX0_angleFrom 69 = Except.ok (Instr.aload_n 0, 1) := by decide +kernel
theorem dX0_angleFrom_70 : decode cX0_angleFrom 70 = Except.ok (Instr.getfield 21, 3) := by decide +kernel
theorem dX0_angleFrom_73 : decode cX0_angleFrom 73 = Except.ok (Instr.iconst 3, 1) := by decide +kernel
theorem dX0_angleFrom_74 : decode cX0_angleFrom 74 = Except.ok (Instr.laload, 1) := by decide +kernel
theorem dX0_angleFrom_75 : decode cX0_angleFrom 75 = Except.ok (Instr.invokestatic 80, 3) := by decide +kernel
theorem dX0_angleFrom_78 : decode cX0_angleFrom 78 = Except.ok (Instr.lmul, 1) := by decide +kernel
theorem dX0_angleFrom_79 : decode cX0_angleFrom 79 = Except.ok (Instr.lreturn, 1) := by decide +kernel
theorem dX7_init_0 : decode cX7_init 0 = Except.ok (Instr.aload_n 0, 1) := by decide +kernel
theorem dX7_init_1 : decode cX7_init 1 = Except.ok (Instr.invokespecial 3, 3) := by decide +kernel
theorem dX7_init_4 : decode cX7_init 4 = Except.ok (Instr.aload_n 0, 1) := by decide +kernel
theorem dX7_init_5 : decode cX7_init 5 = Except.ok (Instr.iconst 3, 1) := by decide +kernel
theorem dX7_init_6 : decode cX7_init 6 = Except.ok (Instr.newarray .int, 2) := by decide +kernel
theorem dX7_init_8 : decode cX7_init 8 = Except.ok (Instr.putfield 9, 3) := by decide +kernel
theorem dX7_init_11 : decode cX7_init 11 = Except.ok (Instr.aload_n 0, 1) := by decide +kernel
theorem dX7_init_12 : decode cX7_init 12 = Except.ok (Instr.iconst 3, 1) := by decide +kernel
theorem dX7_init_13 : decode cX7_init 13 = Except.ok (Instr.newarray .int, 2) := by decide +kernel
theorem dX7_init_15 : decode cX7_init 15 = Except.ok (Instr.putfield 15, 3) := by decide +kernel
theorem dX7_init_18 : decode cX7_init 18 = Except.ok (Instr.aload_n 0, 1) := by decide +kernel
theorem dX7_init_19 : decode cX7_init 19 = Except.ok (Instr.iconst 3, 1) := by decide +kernel
theorem dX7_init_20 : decode cX7_init 20 = Except.ok (Instr.newarray .int, 2) := by decide +kernel
theorem dX7_init_22 : decode cX7_init 22 = Except.ok (Instr.putfield 18, 3) := by decide +kernel
theorem dX7_init_25 : decode cX7_init 25 = Except.ok (Instr.aload_n 0, 1) := by decide +kernel
theorem dX7_init_26 : decode cX7_init 26 = Except.ok (Instr.iconst 3, 1) := by decide +kernel
theorem dX7_init_27 : decode cX7_init 27 = Except.ok (Instr.newarray .int, 2) := by decide +kernel
theorem dX7_init_29 : decode cX7_init 29 = Except.ok (Instr.putfield 21, 3) := by decide +kernel
theorem dX7_init_32 : decode cX7_init 32 = Except.ok (Instr.aload_n 0, 1) := by decide +kernel
theorem dX7_init_33 : decode cX7_init 33 = Except.ok (Instr.iconst 3, 1) := by decide +kernel
theorem dX7_init_34 : decode cX7_init 34 = Except.ok (Instr.newarray .int, 2) := by decide +kernel
theorem dX7_init_36 : decode cX7_init 36 = Except.ok (Instr.putfield 24, 3) := by decide +kernel
theorem dX7_init_39 : decode cX7_init 39 = Except.ok (Instr.aload_n 0, 1) := by decide +kernel
theorem dX7_init_40 : decode cX7_init 40 = Except.ok (Instr.iconst 3, 1) := by decide +kernel
theorem dX7_init_41 : decode cX7_init 41 = Except.ok (Instr.newarray .long, 2) := by decide +kernel
theorem dX7_init_43 : decode cX7_init 43 = Except.ok (Instr.putfield 27, 3) := by decide +kernel
theorem dX7_init_46 : decode cX7_init 46 = Except.ok (Instr.aload_n 0, 1) := by decide +kernel
theorem dX7_init_47 : decode cX7_init 47 = Except.ok (Instr.iconst 3, 1) := by decide +kernel
theorem dX7_init_48 : decode cX7_init 48 = Except.ok (Instr.newarray .long, 2) := by decide +kernel
theorem dX7_init_50 : decode cX7_init 50 = Except.ok (Instr.putfield 31, 3) := by decide +kernel
theorem dX7_init_53 : decode cX7_init 53 = Except.ok (Instr.aload_n 0, 1) := by decide +kernel
theorem dX7_init_54 : decode cX7_init 54 = Except.ok (Instr.iconst 3, 1) := by decide +kernel
theorem dX7_init_55 : decode cX7_init 55 = Except.ok (Instr.newarray .long, 2) := by decide +kernel
theorem dX7_init_57 : decode cX7_init 57 = Except.ok (Instr.putfield 34, 3) := by decide +kernel
theorem dX7_init_60 : decode cX7_init 60 = Except.ok (Instr.aload_n 0, 1) := by decide +kernel
theorem dX7_init_61 : decode cX7_init 61 = Except.ok (Instr.bipush 25, 2) := by decide +kernel
theorem dX7_init_63 : decode cX7_init 63 = Except.ok (Instr.putfield 37, 3) := by decide +kernel
theorem dX7_init_66 : decode cX7_init 66 = Except.ok (Instr.return_, 1) := by decide +kernel
theorem dX7_restore_0 : decode cX7_restore 0 = Except.ok (Instr.aload_n 0, 1) := by decide +kernel
theorem dX7_restore_1 : decode cX7_restore 1 = Except.ok (Instr.getfield 9, 3) := by decide +kernel
theorem dX7_restore_4 : decode cX7_restore 4 = Except.ok (Instr.iconst 0, 1) := by decide +kernel
theorem dX7_restore_5 : decode cX7_restore 5 = Except.ok (Instr.invokestatic 41, 3) := by decide +kernel
theorem dX7_restore_8 : decode cX7_restore 8 = Except.ok (Instr.aload_n 0, 1) := by decide +kernel
theorem dX7_restore_9 : decode cX7_restore 9 = Except.ok (Instr.getfield 15, 3) := by decide +kernel
theorem dX7_restore_12 : decode cX7_restore 12 = Except.ok (Instr.iconst 0, 1) := by decide +kernel
theorem dX7_restore_13 : decode cX7_restore 13 = Except.ok (Instr.invokestatic 41, 3) := by decide +kernel
theorem dX7_restore_16 : decode cX7_restore 16 = Except.ok (Instr.aload_n 0, 1) := by decide +kernel
theorem dX7_restore_17 : decode cX7_restore 17 = Except.ok (Instr.getfield 18, 3) := by decide +kernel
theorem dX7_restore_20 : decode cX7_restore 20 = Except.ok (Instr.iconst 0, 1) := by decide +kernel
theorem dX7_restore_21 : decode cX7_restore 21 = Except.ok (Instr.invokestatic 41, 3) := by decide +kernel
theorem dX7_restore_24 : decode cX7_restore 24 = Except.ok (Instr.aload_n 0, 1) := by decide +kernel
theorem dX7_restore_25 : decode cX7_restore 25 = Except.ok (Instr.getfield 21, 3) := by decide +kernel
theorem dX7_restore_28 : decode cX7_restore 28 = Except.ok (Instr.iconst 0, 1) := by decide +kernel
theorem dX7_restore_29 : decode cX7_restore 29 = Except.ok (Instr.invokestatic 41, 3) := by decide +kernel
theorem dX7_restore_32 : decode cX7_restore 32 = Except.ok (Instr.aload_n 0, 1) := by decide +kernel
theorem dX7_restore_33 : decode cX7_restore 33 = Except.ok (Instr.getfield 24, 3) := by decide +kernel
theorem dX7_restore_36 : decode cX7_restore 36 = Except.ok (Instr.iconst 0, 1) := by decide +kernel
theorem dX7_restore_37 : decode cX7_restore 37 = Except.ok (Instr.invokestatic 41, 3) := by decide +kernel
theorem dX7_restore_40 : decode cX7_restore 40 = Except.ok (Instr.aload_n 0, 1) := by decide +kernel
theorem dX7_restore_41 : decode cX7_restore 41 = Except.ok (Instr.getfield 27, 3) := by decide +kernel
theorem dX7_restore_44 : decode cX7_restore 44 = Except.ok (Instr.lconst 0, 1) := by decide +kernel
theorem dX7_restore_45 : decode cX7_restore 45 = Except.ok (Instr.invokestatic 47, 3) := by decide +kernel
theorem dX7_restore_48 : decode cX7_restore 48 = Except.ok (Instr.aload_n 0, 1) := by decide +kernel
theorem dX7_restore_49 : decode cX7_restore 49 = Except.ok (Instr.getfield 31, 3) := by decide +kernel
theorem dX7_restore_52 : decode cX7_restore 52 = Except.ok (Instr.lconst 0, 1) := by decide +kernel
theorem dX7_restore_53 : decode cX7_restore 53 = Except.ok (Instr.invokestatic 47, 3) := by decide +kernel
theorem dX7_restore_56 : decode cX7_restore 56 = Except.ok (Instr.aload_n 0, 1) := by decide +kernel
theorem dX7_restore_57 : decode cX7_restore 57 = Except.ok (Instr.bipush 25, 2) := by decide +kernel
theorem dX7_restore_59 : decode cX7_restore 59 = Except.ok (Instr.putfield 37, 3) := by decide +kernel
theorem dX7_restore_62 : decode cX7_restore 62 = Except.ok (Instr.aload_n 0, 1) := by decide +kernel
theorem dX7_restore_63 : decode cX7_restore 63 = Except.ok (Instr.iconst 0, 1) := by decide +kernel
theorem dX7_restore_64 : decode cX7_restore 64 = Except.ok (Instr.putfield 50, 3) := by decide +kernel
theorem dX7_restore_67 : decode cX7_restore 67 = Except.ok (Instr.return_, 1) := by decide +kernel
theorem dX7_setGyroErrors_0 : decode cX7_setGyroErrors 0 = Except.ok (Instr.iload_n 1, 1) := by decide +kernel
theorem dX7_setGyroErrors_1 : decode cX7_setGyroErrors 1 = Except.ok (Instr.invokestatic 53, 3) := by decide +kernel
theorem dX7_setGyroErrors_4 : decode cX7_setGyroErrors 4 = Except.ok (Instr.ifCond .ne 4, 3) := by decide +kernel
theorem dX7_setGyroErrors_7 : decode cX7_setGyroErrors 7 = Except.ok (Instr.return_, 1) := by decide +kernel
theorem dX7_setGyroErrors_8 : decode cX7_setGyroErrors 8 = Except.ok (Instr.aload_n 0, 1) := by decide +kernel
theorem dX7_setGyroErrors_9 : decode cX7_setGyroErrors 9 = Except.ok (Instr.getfield 9, 3) := by decide +kernel
theorem dX7_setGyroErrors_12 : decode cX7_setGyroErrors 12 = Except.ok (Instr.iload_n 1, 1) := by decide +kernel
theorem dX7_setGyroErrors_13 : decode cX7_setGyroErrors 13 = Except.ok (Instr.iload_n 2, 1) := by decide +kernel
theorem dX7_setGyroErrors_14 : decode cX7_setGyroErrors 14 = Except.ok (Instr.iastore, 1) := by decide +kernel
theorem dX7_setGyroErrors_15 : decode cX7_setGyroErrors 15 = Except.ok (Instr.aload_n 0, 1) := by decide +kernel
theorem dX7_setGyroErrors_16 : decode cX7_setGyroErrors 16 = Except.ok (Instr.getfield 15, 3) := by decide +kernel
theorem dX7_setGyroErrors_19 : decode cX7_setGyroErrors 19 = Except.ok (Instr.iload_n 1, 1) := by decide +kernel
theorem dX7_setGyroErrors_20 : decode cX7_setGyroErrors 20 = Except.ok (Instr.iload_n 3, 1) := by decide +kernel
theorem dX7_setGyroErrors_21 : decode cX7_setGyroErrors 21 = Except.ok (Instr.iastore, 1) := by decide +kernel
theorem dX7_setGyroErrors_22 : decode cX7_setGyroErrors 22 = Except.ok (Instr.aload_n 0, 1) := by decide +kernel
theorem dX7_setGyroErrors_23 : decode cX7_setGyroErrors 23 = Except.ok (Instr.getfield 18, 3) := by decide +kernel
theorem dX7_setGyroErrors_26 : decode cX7_setGyroErrors 26 = Except.ok (Instr.iload_n 1, 1) := by decide +kernel
theorem dX7_setGyroErrors_27 : decode cX7_setGyroErrors 27 = Except.ok (Instr.iload 4, 2) := by decide +kernel
theorem dX7_setGyroErrors_29 : decode cX7_setGyroErrors 29 = Except.ok (Instr.iastore, 1) := by decide +kernel
theorem dX7_setGyroErrors_30 : decode cX7_setGyroErrors 30 = Except.ok (Instr.aload_n 0, 1) := by decide +kernel
theorem dX7_setGyroErrors_31 : decode cX7_setGyroErrors 31 = Except.ok (Instr.getfield 21, 3) := by decide +kernel
theorem dX7_setGyroErrors_34 : decode cX7_setGyroErrors 34 = Except.ok (Instr.iload_n 1, 1) := by decide +kernel
theorem dX7_setGyroErrors_35 : decode cX7_setGyroErrors 35 = Except.ok (Instr.iload 5, 2) := by decide +kernel
theorem dX7_setGyroErrors_37 : decode cX7_setGyroErrors 37 = Except.ok (Instr.iastore, 1) := by decide +kernel
theorem dX7_setGyroErrors_38 : decode cX7_setGyroErrors 38 = Except.ok (Instr.return_, 1) := by decide +kernel
theorem dX7_setAccelerometerBias_0 : decode cX7_setAccelerometerBias 0 = Except.ok (Instr.iload_n 1, 1) := by decide +kernel
theorem dX7_setAccelerometerBias_1 : decode cX7_setAccelerometerBias 1 = Except.ok (Instr.invokestatic 53, 3) := by decide +kernel
theorem dX7_setAccelerometerBias_4 : decode cX7_setAccelerometerBias 4 = Except.ok (Instr.ifCond .eq 10, 3) := by decide +kernel
theorem dX7_setAccelerometerBias_7 : decode cX7_setAccelerometerBias 7 = Except.ok (Instr.aload_n 0, 1) := by decide +kernel
theorem dX7_setAccelerometerBias_8 : decode cX7_setAccelerometerBias 8 = Except.ok (Instr.getfield 24, 3) := by decide +kernel
theorem dX7_setAccelerometerBias_11 : decode cX7_setAccelerometerBias 11 = Except.ok (Instr.iload_n 1, 1) := by decide +kernel
theorem dX7_setAccelerometerBias_12 : decode cX7_setAccelerometerBias 12 = Except.ok (Instr.iload_n 2, 1) := by decide +kernel
theorem dX7_setAccelerometerBias_13 : decode cX7_setAccelerometerBias 13 = Except.ok (Instr.iastore, 1) := by decide +kernel
theorem dX7_setAccelerometerBias_14 : decode cX7_setAccelerometerBias 14 = Except.ok (Instr.return_, 1) := by decide +kernel
theorem dX7_changeTemperature_0 : decode cX7_changeTemperature 0 = Except.ok (Instr.aload_n 0, 1) := by decide +kernel
theorem dX7_changeTemperature_1 : decode cX7_changeTemperature 1 = Except.ok (Instr.getfield 37, 3) := by decide +kernel
theorem dX7_changeTemperature_4 : decode cX7_changeTemperature 4 = Except.ok (Instr.istore_n 2, 1) := by decide +kernel
theorem dX7_changeTemperature_5 : decode cX7_changeTemperature 5 = Except.ok (Instr.aload_n 0, 1) := by decide +kernel
theorem dX7_changeTemperature_6 : decode cX7_changeTemperature 6 = Except.ok (Instr.iload_n 1, 1) := by decide +kernel
theorem dX7_changeTemperature_7 : decode cX7_changeTemperature 7 = Except.ok (Instr.putfield 37, 3) := by decide +kernel
theorem dX7_changeTemperature_10 : decode cX7_changeTemperature 10 = Except.ok (Instr.iload_n 2, 1) := by decide +kernel
theorem dX7_changeTemperature_11 : decode cX7_changeTemperature 11 = Except.ok (Instr.ireturn, 1) := by decide +kernel
theorem dX7_changeSeed_0 : decode cX7_changeSeed 0 = Except.ok (Instr.aload_n 0, 1) := by decide +kernel
theorem dX7_changeSeed_1 : decode cX7_changeSeed 1 = Except.ok (Instr.getfield 50, 3) := by decide +kernel
theorem dX7_changeSeed_4 : decode cX7_changeSeed 4 = Except.ok (Instr.istore_n 2, 1) := by decide +kernel
theorem dX7_changeSeed_5 : decode cX7_changeSeed 5 = Except.ok (Instr.aload_n 0, 1) := by decide +kernel
theorem dX7_changeSeed_6 : decode cX7_changeSeed 6 = Except.ok (Instr.iload_n 1, 1) := by decide +kernel
theorem dX7_changeSeed_7 : decode cX7_changeSeed 7 = Except.ok (Instr.putfield 50, 3) := by decide +kernel
theorem dX7_changeSeed_10 : decode cX7_changeSeed 10 = Except.ok (Instr.iload_n 2, 1) := by decide +kernel
theorem dX7_changeSeed_11 : decode cX7_changeSeed 11 = Except.ok (Instr.ireturn, 1) := by decide +kernel
theorem dX7_bin_0 : decode cX7_bin 0 = Except.ok (Instr.aload_n 0, 1) := by decide +kernel
theorem dX7_bin_1 : decode cX7_bin 1 = Except.ok (Instr.getfield 37, 3) := by decide +kernel
theorem dX7_bin_4 : decode cX7_bin 4 = Except.ok (Instr.bipush 10, 2) := by decide +kernel
theorem dX7_bin_6 : decode cX7_bin 6 = Except.ok (Instr.invokestatic 59, 3) := by decide +kernel
theorem dX7_bin_9 : decode cX7_bin 9 = Except.ok (Instr.ireturn, 1) := by decide +kernel
theorem dX7_senseRates_0 : decode cX7_senseRates 0 = Except.ok (Instr.aload_n 3, 1) := by decide +kernel
theorem dX7_senseRates_1 : decode cX7_senseRates 1 = Except.ok (Instr.aload_n 2, 1) := by decide +kernel
theorem dX7_senseRates_2 : decode cX7_senseRates 2 = Except.ok (Instr.aload_n 0, 1) := by decide +kernel
theorem dX7_senseRates_3 : decode cX7_senseRates 3 = Except.ok (Instr.getfield 34, 3) := by decide +kernel
theorem dX7_senseRates_6 : decode cX7_senseRates 6 = Except.ok (Instr.invokevirtual 65, 3) := by decide +kernel
theorem dX7_senseRates_9 : decode cX7_senseRates 9 = Except.ok (Instr.iconst 0, 1) := by decide +kernel
theorem dX7_senseRates_10 : decode cX7_senseRates 10 = Except.ok (Instr.istore 4, 2) := by decide +kernel
theorem dX7_senseRates_12 : decode cX7_senseRates 12 = Except.ok (Instr.iload 4, 2) := by decide +kernel
theorem dX7_senseRates_14 : decode cX7_senseRates 14 = Except.ok (Instr.iconst 3, 1) := by decide +kernel
theorem dX7_senseRates_15 : decode cX7_senseRates 15 = Except.ok (Instr.if_icmp .ge 94, 3) := by decide +kernel
theorem dX7_senseRates_18 : decode cX7_senseRates 18 = Except.ok (Instr.aload_n 1, 1) := by decide +kernel
theorem dX7_senseRates_19 : decode cX7_senseRates 19 = Except.ok (Instr.iload 4, 2) := by decide +kernel
theorem dX7_senseRates_21 : decode cX7_senseRates 21 = Except.ok (Instr.laload, 1) := by decide +kernel
theorem dX7_senseRates_22 : decode cX7_senseRates 22 = Except.ok (Instr.aload_n 0, 1) := by decide +kernel
theorem dX7_senseRates_23 : decode cX7_senseRates 23 = Except.ok (Instr.getfield 34, 3) := by decide +kernel
theorem dX7_senseRates_26 : decode cX7_senseRates 26 = Except.ok (Instr.iload 4, 2) := by decide +kernel
theorem dX7_senseRates_28 : decode cX7_senseRates 28 = Except.ok (Instr.laload, 1) := by decide +kernel
theorem dX7_senseRates_29 : decode cX7_senseRates 29 = Except.ok (Instr.ladd, 1) := by decide +kernel
theorem dX7_senseRates_30 : decode cX7_senseRates 30 = Except.ok (Instr.lstore 5, 2) := by decide +kernel
theorem dX7_senseRates_32 : decode cX7_senseRates 32 = Except.ok (Instr.aload_n 0, 1) := by decide +kernel
theorem dX7_senseRates_33 : decode cX7_senseRates 33 = Except.ok (Instr.getfield 27, 3) := by decide +kernel
theorem dX7_senseRates_36 : decode cX7_senseRates 36 = Except.ok (Instr.iload 4, 2) := by decide +kernel
theorem dX7_senseRates_38 : decode cX7_senseRates 38 = Except.ok (Instr.lload 5, 2) := by decide +kernel
theorem dX7_senseRates_40 : decode cX7_senseRates 40 = Except.ok (Instr.lload 5, 2) := by decide +kernel
theorem dX7_senseRates_42 : decode cX7_senseRates 42 = Except.ok (Instr.aload_n 0, 1) := by decide +kernel
theorem dX7_senseRates_43 : decode cX7_senseRates 43 = Except.ok (Instr.getfield 15, 3) := by decide +kernel
theorem dX7_senseRates_46 : decode cX7_senseRates 46 = Except.ok (Instr.iload 4, 2) := by decide +kernel
theorem dX7_senseRates_48 : decode cX7_senseRates 48 = Except.ok (Instr.iaload, 1) := by decide +kernel
theorem dX7_senseRates_49 : decode cX7_senseRates 49 = Except.ok (Instr.i2l, 1) := by decide +kernel
theorem dX7_senseRates_50 : decode cX7_senseRates 50 = Except.ok (Instr.lmul, 1) := by decide +kernel
theorem dX7_senseRates_51 : decode cX7_senseRates 51 = Except.ok (Instr.ldc2_w 71, 3) := by decide +kernel
theorem dX7_senseRates_54 : decode cX7_senseRates 54 = Except.ok (Instr.invokestatic 73, 3) := by decide +kernel
theorem dX7_senseRates_57 : decode cX7_senseRates 57 = Except.ok (Instr.ladd, 1) := by decide +kernel
theorem dX7_senseRates_58 : decode cX7_senseRates 58 = Except.ok (Instr.aload_n 0, 1) := by decide +kernel
theorem dX7_senseRates_59 : decode cX7_senseRates 59 = Except.ok (Instr.getfield 9, 3) := by decide +kernel
theorem dX7_senseRates_62 : decode cX7_senseRates 62 = Except.ok (Instr.iload 4, 2) := by decide +kernel
theorem dX7_senseRates_64 : decode cX7_senseRates 64 = Except.ok (Instr.iaload, 1) := by decide +kernel
theorem dX7_senseRates_65 : decode cX7_senseRates 65 = Except.ok (Instr.i2l, 1) := by decide +kernel
theorem dX7_senseRates_66 : decode cX7_senseRates 66 = Except.ok (Instr.ladd, 1) := by decide +kernel
theorem dX7_senseRates_67 : decode cX7_senseRates 67 = Except.ok (Instr.aload_n 0, 1) := by decide +kernel
theorem dX7_senseRates_68 : decode cX7_senseRates 68 = Except.ok (Instr.getfield 21, 3) := by decide +kernel
theorem dX7_senseRates_71 : decode cX7_senseRates 71 = Except.ok (Instr.iload 4, 2) := by decide +kernel
theorem dX7_senseRates_73 : decode cX7_senseRates 73 = Except.ok (Instr.iaload, 1) := by decide +kernel
theorem dX7_senseRates_74 : decode cX7_senseRates 74 = Except.ok (Instr.aload_n 0, 1) := by decide +kernel
theorem dX7_senseRates_75 : decode cX7_senseRates 75 = Except.ok (Instr.getfield 37, 3) := by decide +kernel
theorem dX7_senseRates_78 : decode cX7_senseRates 78 = Except.ok (Instr.bipush 25, 2) := by decide +kernel
theorem dX7_senseRates_80 : decode cX7_senseRates 80 = Except.ok (Instr.isub, 1) := by decide +kernel
theorem dX7_senseRates_81 : decode cX7_senseRates 81 = Except.ok (Instr.imul, 1) := by decide +kernel
theorem dX7_senseRates_82 : decode cX7_senseRates 82 = Except.ok (Instr.bipush 10, 2) := by decide +kernel
theorem dX7_senseRates_84 : decode cX7_senseRates 84 = Except.ok (Instr.invokestatic 59, 3) := by decide +kernel
theorem dX7_senseRates_87 : decode cX7_senseRates 87 = Except.ok (Instr.i2l, 1) := by decide +kernel
theorem dX7_senseRates_88 : decode cX7_senseRates 88 = Except.ok (Instr.ladd, 1) := by decide +kernel
theorem dX7_senseRates_89 : decode cX7_senseRates 89 = Except.ok (Instr.aload_n 0, 1) := by decide +kernel
theorem dX7_senseRates_90 : decode cX7_senseRates 90 = Except.ok (Instr.aload_n 0, 1) := by decide +kernel
theorem dX7_senseRates_91 : decode cX7_senseRates 91 = Except.ok (Instr.getfield 18, 3) := by decide +kernel
theorem dX7_senseRates_94 : decode cX7_senseRates 94 = Except.ok (Instr.iload 4, 2) := by decide +kernel
theorem dX7_senseRates_96 : decode cX7_senseRates 96 = Except.ok (Instr.iaload, 1) := by decide +kernel
theorem dX7_senseRates_97 : decode cX7_senseRates 97 = Except.ok (Instr.invokevirtual 76, 3) := by decide +kernel
theorem dX7_senseRates_100 : decode cX7_senseRates 100 = Except.ok (Instr.i2l, 1) := by decide +kernel
theorem dX7_senseRates_101 : decode cX7_senseRates 101 = Except.ok (Instr.ladd, 1) := by decide +kernel
theorem dX7_senseRates_102 : decode cX7_senseRates 102 = Except.ok (Instr.lastore, 1) := by decide +kernel
theorem dX7_senseRates_103 : decode cX7_senseRates 103 = Except.ok (Instr.iinc 4 1, 3) := by decide +kernel
theorem dX7_senseRates_106 : decode cX7_senseRates 106 = Except.ok (Instr.goto (-94), 3) := by decide +kernel
theorem dX7_senseRates_109 : decode cX7_senseRates 109 = Except.ok (Instr.return_, 1) := by decide +kernel
theorem dX7_drawNoise_0 : decode cX7_drawNoise 0 = Except.ok (Instr.iload_n 1, 1) := by decide +kernel
theorem dX7_drawNoise_1 : decode cX7_drawNoise 1 = Except.ok (Instr.ifCond .gt 5, 3) := by decide +kernel
theorem dX7_drawNoise_4 : decode cX7_drawNoise 4 = Except.ok (Instr.iconst 0, 1) := by decide +kernel
theorem dX7_drawNoise_5 : decode cX7_drawNoise 5 = Except.ok (Instr.ireturn, 1) := by decide +kernel
theorem dX7_drawNoise_6 : decode cX7_drawNoise 6 = Except.ok (Instr.aload_n 0, 1) := by decide +kernel
theorem dX7_drawNoise_7 : decode cX7_drawNoise 7 = Except.ok (Instr.aload_n 0, 1) := by decide +kernel
theorem dX7_drawNoise_8 : decode cX7_drawNoise 8 = Except.ok (Instr.getfield 50, 3) := by decide +kernel
theorem dX7_drawNoise_11 : decode cX7_drawNoise 11 = Except.ok (Instr.ldc 80, 2) := by decide +kernel
theorem dX7_drawNoise_13 : decode cX7_drawNoise 13 = Except.ok (Instr.imul, 1) := by decide +kernel
theorem dX7_drawNoise_14 : decode cX7_drawNoise 14 = Except.ok (Instr.sipush 12345, 3) := by decide +kernel
theorem dX7_drawNoise_17 : decode cX7_drawNoise 17 = Except.ok (Instr.iadd, 1) := by decide +kernel
theorem dX7_drawNoise_18 : decode cX7_drawNoise 18 = Except.ok (Instr.putfield 50, 3) := by decide +kernel
theorem dX7_drawNoise_21 : decode cX7_drawNoise 21 = Except.ok (Instr.aload_n 0, 1) := by decide +kernel
theorem dX7_drawNoise_22 : decode cX7_drawNoise 22 = Except.ok (Instr.getfield 50, 3) := by decide +kernel
theorem dX7_drawNoise_25 : decode cX7_drawNoise 25 = Except.ok (Instr.bipush 16, 2) := by decide +kernel
theorem dX7_drawNoise_27 : decode cX7_drawNoise 27 = Except.ok (Instr.iushr, 1) := by decide +kernel
theorem dX7_drawNoise_28 : decode cX7_drawNoise 28 = Except.ok (Instr.iconst 2, 1) := by decide +kernel
theorem dX7_drawNoise_29 : decode cX7_drawNoise 29 = Except.ok (Instr.iload_n 1, 1) := by decide +kernel
theorem dX7_drawNoise_30 : decode cX7_drawNoise 30 = Except.ok (Instr.imul, 1) := by decide +kernel
theorem dX7_drawNoise_31 : decode cX7_drawNoise 31 = Except.ok (Instr.iconst 1, 1) := by decide +kernel
theorem dX7_drawNoise_32 : decode cX7_drawNoise 32 = Except.ok (Instr.iadd, 1) := by decide +kernel
theorem dX7_drawNoise_33 : decode cX7_drawNoise 33 = Except.ok (Instr.irem, 1) := by decide +kernel
theorem dX7_drawNoise_34 : decode cX7_drawNoise 34 = Except.ok (Instr.iload_n 1, 1) := by decide +kernel
theorem dX7_drawNoise_35 : decode cX7_drawNoise 35 = Except.ok (Instr.isub, 1) := by decide +kernel
theorem dX7_drawNoise_36 : decode cX7_drawNoise 36 = Except.ok (Instr.ireturn, 1) := by decide +kernel
theorem dX7_senseGravity_0 : decode cX7_senseGravity 0 = Except.ok (Instr.aload_n 1, 1) := by decide +kernel
theorem dX7_senseGravity_1 : decode cX7_senseGravity 1 = Except.ok (Instr.getstatic 81, 3) := by decide +kernel
theorem dX7_senseGravity_4 : decode cX7_senseGravity 4 = Except.ok (Instr.aload_n 0, 1) := by decide +kernel
theorem dX7_senseGravity_5 : decode cX7_senseGravity 5 = Except.ok (Instr.getfield 34, 3) := by decide +kernel
theorem dX7_senseGravity_8 : decode cX7_senseGravity 8 = Except.ok (Instr.invokevirtual 65, 3) := by decide +kernel
theorem dX7_senseGravity_11 : decode cX7_senseGravity 11 = Except.ok (Instr.iconst 0, 1) := by decide +kernel
theorem dX7_senseGravity_12 : decode cX7_senseGravity 12 = Except.ok (Instr.istore_n 2, 1) := by decide +kernel
theorem dX7_senseGravity_13 : decode cX7_senseGravity 13 = Except.ok (Instr.iload_n 2, 1) := by decide +kernel
theorem dX7_senseGravity_14 : decode cX7_senseGravity 14 = Except.ok (Instr.iconst 3, 1) := by decide +kernel
theorem dX7_senseGravity_15 : decode cX7_senseGravity 15 = Except.ok (Instr.if_icmp .ge 29, 3) := by decide +kernel
theorem dX7_senseGravity_18 : decode cX7_senseGravity 18 = Except.ok (Instr.aload_n 0, 1) := by decide +kernel
theorem dX7_senseGravity_19 : decode cX7_senseGravity 19 = Except.ok (Instr.getfield 31, 3) := by decide +kernel
theorem dX7_senseGravity_22 : decode cX7_senseGravity 22 = Except.ok (Instr.iload_n 2, 1) := by decide +kernel
theorem dX7_senseGravity_23 : decode cX7_senseGravity 23 = Except.ok (Instr.aload_n 0, 1) := by decide +kernel
theorem dX7_senseGravity_24 : decode cX7_senseGravity 24 = Except.ok (Instr.getfield 34, 3) := by decide +kernel
theorem dX7_senseGravity_27 : decode cX7_senseGravity 27 = Except.ok (Instr.iload_n 2, 1) := by decide +kernel
theorem dX7_senseGravity_28 : decode cX7_senseGravity 28 = Except.ok (Instr.laload, 1) := by decide +kernel
theorem dX7_senseGravity_29 : decode cX7_senseGravity 29 = Except.ok (Instr.aload_n 0, 1) := by decide +kernel
theorem dX7_senseGravity_30 : decode cX7_senseGravity 30 = Except.ok (Instr.getfield 24, 3) := by decide +kernel
theorem dX7_senseGravity_33 : decode cX7_senseGravity 33 = Except.ok (Instr.iload_n 2, 1) := by decide +kernel
theorem dX7_senseGravity_34 : decode cX7_senseGravity 34 = Except.ok (Instr.iaload, 1) := by decide +kernel
theorem dX7_senseGravity_35 : decode cX7_senseGravity 35 = Except.ok (Instr.i2l, 1) := by decide +kernel
theorem dX7_senseGravity_36 : decode cX7_senseGravity 36 = Except.ok (Instr.ladd, 1) := by decide +kernel
theorem dX7_senseGravity_37 : decode cX7_senseGravity 37 = Except.ok (Instr.lastore, 1) := by decide +kernel
theorem dX7_senseGravity_38 : decode cX7_senseGravity 38 = Except.ok (Instr.iinc 2 1, 3) := by decide +kernel
theorem dX7_senseGravity_41 : decode cX7_senseGravity 41 = Except.ok (Instr.goto (-28), 3) := by decide +kernel
theorem dX7_senseGravity_44 : decode cX7_senseGravity 44 = Except.ok (Instr.return_, 1) := by decide +kernel
theorem dX4_init_0 : decode cX4_init 0 = Except.ok (Instr.aload_n 0, 1) := by decide +kernel
theorem dX4_init_1 : decode cX4_init 1 = Except.ok (Instr.invokespecial 3, 3) := by decide +kernel
theorem dX4_init_4 : decode cX4_init 4 = Except.ok (Instr.aload_n 0, 1) := by decide +kernel
theorem dX4_init_5 : decode cX4_init 5 = Except.ok (Instr.new 9, 3) := by decide +kernel
theorem dX4_init_8 : decode cX4_init 8 = Except.ok (Instr.dup, 1) := by decide +kernel
theorem dX4_init_9 : decode cX4_init 9 = Except.ok (Instr.invokespecial 11, 3) := by decide +kernel
theorem dX4_init_12 : decode cX4_init 12 = Except.ok (Instr.putfield 12, 3) := by decide +kernel
theorem dX4_init_15 : decode cX4_init 15 = Except.ok (Instr.aload_n 0, 1) := by decide +kernel
theorem dX4_init_16 : decode cX4_init 16 = Except.ok (Instr.new 18, 3) := by decide +kernel
theorem dX4_init_19 : decode cX4_init 19 = Except.ok (Instr.dup, 1) := by decide +kernel
theorem dX4_init_20 : decode cX4_init 20 = Except.ok (Instr.invokespecial 20, 3) := by decide +kernel
theorem dX4_init_23 : decode cX4_init 23 = Except.ok (Instr.putfield 21, 3) := by decide +kernel
theorem dX4_init_26 : decode cX4_init 26 = Except.ok (Instr.aload_n 0, 1) := by decide +kernel
theorem dX4_init_27 : decode cX4_init 27 = Except.ok (Instr.iconst 3, 1) := by decide +kernel
theorem dX4_init_28 : decode cX4_init 28 = Except.ok (Instr.newarray .long, 2) := by decide +kernel
theorem dX4_init_30 : decode cX4_init 30 = Except.ok (Instr.putfield 25, 3) := by decide +kernel
theorem dX4_init_33 : decode cX4_init 33 = Except.ok (Instr.aload_n 0, 1) := by decide +kernel
theorem dX4_init_34 : decode cX4_init 34 = Except.ok (Instr.iconst 3, 1) := by decide +kernel
theorem dX4_init_35 : decode cX4_init 35 = Except.ok (Instr.newarray .long, 2) := by decide +kernel
theorem dX4_init_37 : decode cX4_init 37 = Except.ok (Instr.putfield 29, 3) := by decide +kernel
theorem dX4_init_40 : decode cX4_init 40 = Except.ok (Instr.aload_n 0, 1) := by decide +kernel
theorem dX4_init_41 : decode cX4_init 41 = Except.ok (Instr.iconst 3, 1) := by decide +kernel
theorem dX4_init_42 : decode cX4_init 42 = Except.ok (Instr.newarray .long, 2) := by decide +kernel
theorem dX4_init_44 : decode cX4_init 44 = Except.ok (Instr.putfield 32, 3) := by decide +kernel
theorem dX4_init_47 : decode cX4_init 47 = Except.ok (Instr.aload_n 0, 1) := by decide +kernel
theorem dX4_init_48 : decode cX4_init 48 = Except.ok (Instr.iconst 3, 1) := by decide +kernel
theorem dX4_init_49 : decode cX4_init 49 = Except.ok (Instr.newarray .long, 2) := by decide +kernel
theorem dX4_init_51 : decode cX4_init 51 = Except.ok (Instr.putfield 35, 3) := by decide +kernel
theorem dX4_init_54 : decode cX4_init 54 = Except.ok (Instr.aload_n 0, 1) := by decide +kernel
theorem dX4_init_55 : decode cX4_init 55 = Except.ok (Instr.iconst 3, 1) := by decide +kernel
theorem dX4_init_56 : decode cX4_init 56 = Except.ok (Instr.newarray .long, 2) := by decide +kernel
theorem dX4_init_58 : decode cX4_init 58 = Except.ok (Instr.putfield 38, 3) := by decide +kernel
theorem dX4_init_61 : decode cX4_init 61 = Except.ok (Instr.aload_n 0, 1) := by decide +kernel
theorem dX4_init_62 : decode cX4_init 62 = Except.ok (Instr.iconst 3, 1) := by decide +kernel
theorem dX4_init_63 : decode cX4_init 63 = Except.ok (Instr.newarray .long, 2) := by decide +kernel
theorem dX4_init_65 : decode cX4_init 65 = Except.ok (Instr.putfield 41, 3) := by decide +kernel
theorem dX4_init_68 : decode cX4_init 68 = Except.ok (Instr.aload_n 0, 1) := by decide +kernel
theorem dX4_init_69 : decode cX4_init 69 = Except.ok (Instr.iconst 3, 1) := by decide +kernel
theorem dX4_init_70 : decode cX4_init 70 = Except.ok (Instr.newarray .long, 2) := by decide +kernel
theorem dX4_init_72 : decode cX4_init 72 = Except.ok (Instr.putfield 44, 3) := by decide +kernel
theorem dX4_init_75 : decode cX4_init 75 = Except.ok (Instr.aload_n 0, 1) := by decide +kernel
theorem dX4_init_76 : decode cX4_init 76 = Except.ok (Instr.iconst 1, 1) := by decide +kernel
theorem dX4_init_77 : decode cX4_init 77 = Except.ok (Instr.putfield 47, 3) := by decide +kernel
theorem dX4_init_80 : decode cX4_init 80 = Except.ok (Instr.return_, 1) := by decide +kernel
theorem dX4_restore_0 : decode cX4_restore 0 = Except.ok (Instr.aload_n 0, 1) := by decide +kernel
theorem dX4_restore_1 : decode cX4_restore 1 = Except.ok (Instr.getfield 12, 3) := by decide +kernel
theorem dX4_restore_4 : decode cX4_restore 4 = Except.ok (Instr.invokevirtual 51, 3) := by decide +kernel
theorem dX4_restore_7 : decode cX4_restore 7 = Except.ok (Instr.aload_n 0, 1) := by decide +kernel
theorem dX4_restore_8 : decode cX4_restore 8 = Except.ok (Instr.getfield 21, 3) := by decide +kernel
theorem dX4_restore_11 : decode cX4_restore 11 = Except.ok (Instr.invokevirtual 54, 3) := by decide +kernel
theorem dX4_restore_14 : decode cX4_restore 14 = Except.ok (Instr.aload_n 0, 1) := by decide +kernel
theorem dX4_restore_15 : decode cX4_restore 15 = Except.ok (Instr.getfield 25, 3) := by decide +kernel
theorem dX4_restore_18 : decode cX4_restore 18 = Except.ok (Instr.lconst 0, 1) := by decide +kernel
theorem dX4_restore_19 : decode cX4_restore 19 = Except.ok (Instr.invokestatic 57, 3) := by decide +kernel
theorem dX4_restore_22 : decode cX4_restore 22 = Except.ok (Instr.aload_n 0, 1) := by decide +kernel
theorem dX4_restore_23 : decode cX4_restore 23 = Except.ok (Instr.getfield 29, 3) := by decide +kernel
theorem dX4_restore_26 : decode cX4_restore 26 = Except.ok (Instr.lconst 0, 1) := by decide +kernel
theorem dX4_restore_27 : decode cX4_restore 27 = Except.ok (Instr.invokestatic 57, 3) := by decide +kernel
theorem dX4_restore_30 : decode cX4_restore 30 = Except.ok (Instr.aload_n 0, 1) := by decide +kernel
theorem dX4_restore_31 : decode cX4_restore 31 = Except.ok (Instr.getfield 32, 3) := by decide +kernel
theorem dX4_restore_34 : decode cX4_restore 34 = Except.ok (Instr.lconst 0, 1) := by decide +kernel
theorem dX4_restore_35 : decode cX4_restore 35 = Except.ok (Instr.invokestatic 57, 3) := by decide +kernel
theorem dX4_restore_38 : decode cX4_restore 38 = Except.ok (Instr.aload_n 0, 1) := by decide +kernel
theorem dX4_restore_39 : decode cX4_restore 39 = Except.ok (Instr.iconst 1, 1) := by decide +kernel
theorem dX4_restore_40 : decode cX4_restore 40 = Except.ok (Instr.putfield 47, 3) := by decide +kernel
theorem dX4_restore_43 : decode cX4_restore 43 = Except.ok (Instr.aload_n 0, 1) := by decide +kernel
theorem dX4_restore_44 : decode cX4_restore 44 = Except.ok (Instr.iconst 0, 1) := by decide +kernel
theorem dX4_restore_45 : decode cX4_restore 45 = Except.ok (Instr.putfield 63, 3) := by decide +kernel
theorem dX4_restore_48 : decode cX4_restore 48 = Except.ok (Instr.aload_n 0, 1) := by decide +kernel
theorem dX4_restore_49 : decode cX4_restore 49 = Except.ok (Instr.iconst 0, 1) := by decide +kernel
theorem dX4_restore_50 : decode cX4_restore 50 = Except.ok (Instr.putfield 66, 3) := by decide +kernel
theorem dX4_restore_53 : decode cX4_restore 53 = Except.ok (Instr.return_, 1) := by decide +kernel
theorem dX4_changeMethod_0 : decode cX4_changeMethod 0 = Except.ok (Instr.aload_n 0, 1) := by decide +kernel
theorem dX4_changeMethod_1 : decode cX4_changeMethod 1 = Except.ok (Instr.getfield 47, 3) := by decide +kernel
theorem dX4_changeMethod_4 : decode cX4_changeMethod 4 = Except.ok (Instr.istore_n 2, 1) := by decide +kernel
theorem dX4_changeMethod_5 : decode cX4_changeMethod 5 = Except.ok (Instr.aload_n 0, 1) := by decide +kernel
theorem dX4_changeMethod_6 : decode cX4_changeMethod 6 = Except.ok (Instr.iload_n 1, 1) := by decide +kernel
theorem dX4_changeMethod_7 : decode cX4_changeMethod 7 = Except.ok (Instr.putfield 47, 3) := by decide +kernel
theorem dX4_changeMethod_10 : decode cX4_changeMethod 10 = Except.ok (Instr.iload_n 2, 1) := by decide +kernel
theorem dX4_changeMethod_11 : decode cX4_changeMethod 11 = Except.ok (Instr.ireturn, 1) := by decide +kernel
theorem dX4_changeLevelling_0 : decode cX4_changeLevelling 0 = Except.ok (Instr.aload_n 0, 1) := by decide +kernel
theorem dX4_changeLevelling_1 : decode cX4_changeLevelling 1 = Except.ok (Instr.getfield 63, 3) := by decide +kernel
theorem dX4_changeLevelling_4 : decode cX4_changeLevelling 4 = Except.ok (Instr.istore_n 2, 1) := by decide +kernel
theorem dX4_changeLevelling_5 : decode cX4_changeLevelling 5 = Except.ok (Instr.aload_n 0, 1) := by decide +kernel
theorem dX4_changeLevelling_6 : decode cX4_changeLevelling 6 = Except.ok (Instr.iload_n 1, 1) := by decide +kernel
theorem dX4_changeLevelling_7 : decode cX4_changeLevelling 7 = Except.ok (Instr.putfield 63, 3) := by decide +kernel
theorem dX4_changeLevelling_10 : decode cX4_changeLevelling 10 = Except.ok (Instr.iload_n 2, 1) := by decide +kernel
theorem dX4_changeLevelling_11 : decode cX4_changeLevelling 11 = Except.ok (Instr.ireturn, 1) := by decide +kernel
theorem dX4_changeHeading_0 : decode cX4_changeHeading 0 = Except.ok (Instr.aload_n 0, 1) := by decide +kernel
theorem dX4_changeHeading_1 : decode cX4_changeHeading 1 = Except.ok (Instr.getfield 66, 3) := by decide +kernel
theorem dX4_changeHeading_4 : decode cX4_changeHeading 4 = Except.ok (Instr.istore_n 2, 1) := by decide +kernel
theorem dX4_changeHeading_5 : decode cX4_changeHeading 5 = Except.ok (Instr.iload_n 2, 1) := by decide +kernel
theorem dX4_changeHeading_6 : decode cX4_changeHeading 6 = Except.ok (Instr.ifCond .ne 15, 3) := by decide +kernel
theorem dX4_changeHeading_9 : decode cX4_changeHeading 9 = Except.ok (Instr.iload_n 1, 1) := by decide +kernel
theorem dX4_changeHeading_10 : decode cX4_changeHeading 10 = Except.ok (Instr.ifCond .le 11, 3) := by decide +kernel
theorem dX4_changeHeading_13 : decode cX4_changeHeading 13 = Except.ok (Instr.aload_n 0, 1) := by decide +kernel
theorem dX4_changeHeading_14 : decode cX4_changeHeading 14 = Except.ok (Instr.getfield 29, 3) := by decide +kernel
theorem dX4_changeHeading_17 : decode cX4_changeHeading 17 = Except.ok (Instr.lconst 0, 1) := by decide +kernel
theorem dX4_changeHeading_18 : decode cX4_changeHeading 18 = Except.ok (Instr.invokestatic 57, 3) := by decide +kernel
theorem dX4_changeHeading_21 : decode cX4_changeHeading 21 = Except.ok (Instr.aload_n 0, 1) := by decide +kernel
theorem dX4_changeHeading_22 : decode cX4_changeHeading 22 = Except.ok (Instr.iload_n 1, 1) := by decide +kernel
theorem dX4_changeHeading_23 : decode cX4_changeHeading 23 = Except.ok (Instr.putfield 66, 3) := by decide +kernel
theorem dX4_changeHeading_26 : decode cX4_changeHeading 26 = Except.ok (Instr.iload_n 2, 1) := by decide +kernel
theorem dX4_changeHeading_27 : decode cX4_changeHeading 27 = Except.ok (Instr.ireturn, 1) := by decide +kernel
theorem dX4_follow_0 : decode cX4_follow 0 = Except.ok (Instr.aload_n 0, 1) := by decide +kernel
theorem dX4_follow_1 : decode cX4_follow 1 = Except.ok (Instr.aload_n 1, 1) := by decide +kernel
theorem dX4_follow_2 : decode cX4_follow 2 = Except.ok (Instr.aload_n 2, 1) := by decide +kernel
theorem dX4_follow_3 : decode cX4_follow 3 = Except.ok (Instr.invokevirtual 69, 3) := by decide +kernel
theorem dX4_follow_6 : decode cX4_follow 6 = Except.ok (Instr.aload_n 0, 1) := by decide +kernel
theorem dX4_follow_7 : decode cX4_follow 7 = Except.ok (Instr.aload_n 3, 1) := by decide +kernel
theorem dX4_follow_8 : decode cX4_follow 8 = Except.ok (Instr.invokevirtual 73, 3) := by decide +kernel
theorem dX4_follow_11 : decode cX4_follow 11 = Except.ok (Instr.aload_n 0, 1) := by decide +kernel
theorem dX4_follow_12 : decode cX4_follow 12 = Except.ok (Instr.aload_n 1, 1) := by decide +kernel
theorem dX4_follow_13 : decode cX4_follow 13 = Except.ok (Instr.getfield 77, 3) := by decide +kernel
theorem dX4_follow_16 : decode cX4_follow 16 = Except.ok (Instr.invokevirtual 82, 3) := by decide +kernel
theorem dX4_follow_19 : decode cX4_follow 19 = Except.ok (Instr.aload_n 0, 1) := by decide +kernel
theorem dX4_follow_20 : decode cX4_follow 20 = Except.ok (Instr.aload_n 3, 1) := by decide +kernel
theorem dX4_follow_21 : decode cX4_follow 21 = Except.ok (Instr.invokevirtual 85, 3) := by decide +kernel
theorem dX4_follow_24 : decode cX4_follow 24 = Except.ok (Instr.aload_n 0, 1) := by decide +kernel
theorem dX4_follow_25 : decode cX4_follow 25 = Except.ok (Instr.aload_n 3, 1) := by decide +kernel
theorem dX4_follow_26 : decode cX4_follow 26 = Except.ok (Instr.invokevirtual 88, 3) := by decide +kernel
theorem dX4_follow_29 : decode cX4_follow 29 = Except.ok (Instr.return_, 1) := by decide +kernel
theorem dX4_correct_0 : decode cX4_correct 0 = Except.ok (Instr.aload_n 1, 1) := by decide +kernel
theorem dX4_correct_1 : decode cX4_correct 1 = Except.ok (Instr.invokevirtual 91, 3) := by decide +kernel
theorem dX4_correct_4 : decode cX4_correct 4 = Except.ok (Instr.istore_n 3, 1) := by decide +kernel
theorem dX4_correct_5 : decode cX4_correct 5 = Except.ok (Instr.iconst 0, 1) := by decide +kernel
theorem dX4_correct_6 : decode cX4_correct 6 = Except.ok (Instr.istore 4, 2) := by decide +kernel
theorem dX4_correct_8 : decode cX4_correct 8 = Except.ok (Instr.iload 4, 2) := by decide +kernel
theorem dX4_correct_10 : decode cX4_correct 10 = Except.ok (Instr.iconst 3, 1) := by decide +kernel
theorem dX4_correct_11 : decode cX4_correct 11 = Except.ok (Instr.if_icmp .ge 55, 3) := by decide +kernel
theorem dX4_correct_14 : decode cX4_correct 14 = Except.ok (Instr.aload_n 1, 1) := by decide +kernel
theorem dX4_correct_15 : decode cX4_correct 15 = Except.ok (Instr.getfield 95, 3) := by decide +kernel
theorem dX4_correct_18 : decode cX4_correct 18 = Except.ok (Instr.iload 4, 2) := by decide +kernel
theorem dX4_correct_20 : decode cX4_correct 20 = Except.ok (Instr.laload, 1) := by decide +kernel
theorem dX4_correct_21 : decode cX4_correct 21 = Except.ok (Instr.aload_n 2, 1) := by decide +kernel
theorem dX4_correct_22 : decode cX4_correct 22 = Except.ok (Instr.iload 4, 2) := by decide +kernel
theorem dX4_correct_24 : decode cX4_correct 24 = Except.ok (Instr.iload_n 3, 1) := by decide +kernel
theorem dX4_correct_25 : decode cX4_correct 25 = Except.ok (Instr.invokevirtual 98, 3) := by decide +kernel
theorem dX4_correct_28 : decode cX4_correct 28 = Except.ok (Instr.i2l, 1) := by decide +kernel
theorem dX4_correct_29 : decode cX4_correct 29 = Except.ok (Instr.lsub, 1) := by decide +kernel
theorem dX4_correct_30 : decode cX4_correct 30 = Except.ok (Instr.lstore 5, 2) := by decide +kernel
theorem dX4_correct_32 : decode cX4_correct 32 = Except.ok (Instr.aload_n 0, 1) := by decide +kernel
theorem dX4_correct_33 : decode cX4_correct 33 = Except.ok (Instr.getfield 21, 3) := by decide +kernel
theorem dX4_correct_36 : decode cX4_correct 36 = Except.ok (Instr.iload 4, 2) := by decide +kernel
theorem dX4_correct_38 : decode cX4_correct 38 = Except.ok (Instr.lload 5, 2) := by decide +kernel
theorem dX4_correct_40 : decode cX4_correct 40 = Except.ok (Instr.invokevirtual 104, 3) := by decide +kernel
theorem dX4_correct_43 : decode cX4_correct 43 = Except.ok (Instr.aload_n 0, 1) := by decide +kernel
theorem dX4_correct_44 : decode cX4_correct 44 = Except.ok (Instr.getfield 35, 3) := by decide +kernel
theorem dX4_correct_47 : decode cX4_correct 47 = Except.ok (Instr.iload 4, 2) := by decide +kernel
theorem dX4_correct_49 : decode cX4_correct 49 = Except.ok (Instr.lload 5, 2) := by decide +kernel
theorem dX4_correct_51 : decode cX4_correct 51 = Except.ok (Instr.aload_n 0, 1) := by decide +kernel
theorem dX4_correct_52 : decode cX4_correct 52 = Except.ok (Instr.getfield 25, 3) := by decide +kernel
theorem dX4_correct_55 : decode cX4_correct 55 = Except.ok (Instr.iload 4, 2) := by decide +kernel
theorem dX4_correct_57 : decode cX4_correct 57 = Except.ok (Instr.laload, 1) := by decide +kernel
theorem dX4_correct_58 : decode cX4_correct 58 = Except.ok (Instr.lsub, 1) := by decide +kernel
theorem dX4_correct_59 : decode cX4_correct 59 = Except.ok (Instr.lastore, 1) := by decide +kernel
theorem dX4_correct_60 : decode cX4_correct 60 = Except.ok (Instr.iinc 4 1, 3) := by decide +kernel
theorem dX4_correct_63 : decode cX4_correct 63 = Except.ok (Instr.goto (-55), 3) := by decide +kernel
theorem dX4_correct_66 : decode cX4_correct 66 = Except.ok (Instr.return_, 1) := by decide +kernel
theorem dX4_propagate_0 : decode cX4_propagate 0 = Except.ok (Instr.aload_n 0, 1) := by decide +kernel
theorem dX4_propagate_1 : decode cX4_propagate 1 = Except.ok (Instr.getfield 12, 3) := by decide +kernel
theorem dX4_propagate_4 : decode cX4_propagate 4 = Except.ok (Instr.aload_n 1, 1) := by decide +kernel
theorem dX4_propagate_5 : decode cX4_propagate 5 = Except.ok (Instr.aload_n 0, 1) := by decide +kernel
theorem dX4_propagate_6 : decode cX4_propagate 6 = Except.ok (Instr.getfield 41, 3) := by decide +kernel
theorem dX4_propagate_9 : decode cX4_propagate 9 = Except.ok (Instr.invokevirtual 108, 3) := by decide +kernel
theorem dX4_propagate_12 : decode cX4_propagate 12 = Except.ok (Instr.iconst 0, 1) := by decide +kernel
theorem dX4_propagate_13 : decode cX4_propagate 13 = Except.ok (Instr.istore_n 2, 1) := by decide +kernel
theorem dX4_propagate_14 : decode cX4_propagate 14 = Except.ok (Instr.iload_n 2, 1) := by decide +kernel
theorem dX4_propagate_15 : decode cX4_propagate 15 = Except.ok (Instr.iconst 3, 1) := by decide +kernel
theorem dX4_propagate_16 : decode cX4_propagate 16 = Except.ok (Instr.if_icmp .ge 28, 3) := by decide +kernel
theorem dX4_propagate_19 : decode cX4_propagate 19 = Except.ok (Instr.aload_n 0, 1) := by decide +kernel
theorem dX4_propagate_20 : decode cX4_propagate 20 = Except.ok (Instr.getfield 38, 3) := by decide +kernel
theorem dX4_propagate_23 : decode cX4_propagate 23 = Except.ok (Instr.iload_n 2, 1) := by decide +kernel
theorem dX4_propagate_24 : decode cX4_propagate 24 = Except.ok (Instr.aload_n 0, 1) := by decide +kernel
theorem dX4_propagate_25 : decode cX4_propagate 25 = Except.ok (Instr.getfield 35, 3) := by decide +kernel
theorem dX4_propagate_28 : decode cX4_propagate 28 = Except.ok (Instr.iload_n 2, 1) := by decide +kernel
theorem dX4_propagate_29 : decode cX4_propagate 29 = Except.ok (Instr.laload, 1) := by decide +kernel
theorem dX4_propagate_30 : decode cX4_propagate 30 = Except.ok (Instr.aload_n 0, 1) := by decide +kernel
theorem dX4_propagate_31 : decode cX4_propagate 31 = Except.ok (Instr.getfield 41, 3) := by decide +kernel
theorem dX4_propagate_34 : decode cX4_propagate 34 = Except.ok (Instr.iload_n 2, 1) := by decide +kernel
theorem dX4_propagate_35 : decode cX4_propagate 35 = Except.ok (Instr.laload, 1) := by decide +kernel
theorem dX4_propagate_36 : decode cX4_propagate 36 = Except.ok (Instr.lsub, 1) := by decide +kernel
theorem dX4_propagate_37 : decode cX4_propagate 37 = Except.ok (Instr.lastore, 1) := by decide +kernel
theorem dX4_propagate_38 : decode cX4_propagate 38 = Except.ok (Instr.iinc 2 1, 3) := by decide +kernel
theorem dX4_propagate_41 : decode cX4_propagate 41 = Except.ok (Instr.goto (-27), 3) := by decide +kernel
theorem dX4_propagate_44 : decode cX4_propagate 44 = Except.ok (Instr.aload_n 0, 1) := by decide +kernel
theorem dX4_propagate_45 : decode cX4_propagate 45 = Except.ok (Instr.getfield 47, 3) := by decide +kernel
theorem dX4_propagate_48 : decode cX4_propagate 48 = Except.ok (Instr.ifCond .ne 31, 3) := by decide +kernel
theorem dX4_propagate_51 : decode cX4_propagate 51 = Except.ok (Instr.aload_n 0, 1) := by decide +kernel
theorem dX4_propagate_52 : decode cX4_propagate 52 = Except.ok (Instr.getfield 12, 3) := by decide +kernel
theorem dX4_propagate_55 : decode cX4_propagate 55 = Except.ok (Instr.aload_n 0, 1) := by decide +kernel
theorem dX4_propagate_56 : decode cX4_propagate 56 = Except.ok (Instr.getfield 38, 3) := by decide +kernel
theorem dX4_propagate_59 : decode cX4_propagate 59 = Except.ok (Instr.iconst 0, 1) := by decide +kernel
theorem dX4_propagate_60 : decode cX4_propagate 60 = Except.ok (Instr.laload, 1) := by decide +kernel
theorem dX4_propagate_61 : decode cX4_propagate 61 = Except.ok (Instr.aload_n 0, 1) := by decide +kernel
theorem dX4_propagate_62 : decode cX4_propagate 62 = Except.ok (Instr.getfield 38, 3) := by decide +kernel
theorem dX4_propagate_65 : decode cX4_propagate 65 = Except.ok (Instr.iconst 1, 1) := by decide +kernel
theorem dX4_propagate_66 : decode cX4_propagate 66 = Except.ok (Instr.laload, 1) := by decide +kernel
theorem dX4_propagate_67 : decode cX4_propagate 67 = Except.ok (Instr.aload_n 0, 1) := by decide +kernel
theorem dX4_propagate_68 : decode cX4_propagate 68 = Except.ok (Instr.getfield 38, 3) := by decide +kernel
theorem dX4_propagate_71 : decode cX4_propagate 71 = Except.ok (Instr.iconst 2, 1) := by decide +kernel
theorem dX4_propagate_72 : decode cX4_propagate 72 = Except.ok (Instr.laload, 1) := by decide +kernel
theorem dX4_propagate_73 : decode cX4_propagate 73 = Except.ok (Instr.invokevirtual 112, 3) := by decide +kernel
theorem dX4_propagate_76 : decode cX4_propagate 76 = Except.ok (Instr.goto 109, 3) := by decide +kernel
theorem dX4_propagate_79 : decode cX4_propagate 79 = Except.ok (Instr.aload_n 0, 1) := by decide +kernel
theorem dX4_propagate_80 : decode cX4_propagate 80 = Except.ok (Instr.getfield 47, 3) := by decide +kernel
theorem dX4_propagate_83 : decode cX4_propagate 83 = Except.ok (Instr.iconst 1, 1) := by decide +kernel
theorem dX4_propagate_84 : decode cX4_propagate 84 = Except.ok (Instr.if_icmp .ne 31, 3) := by decide +kernel
theorem dX4_propagate_87 : decode cX4_propagate 87 = Except.ok (Instr.aload_n 0, 1) := by decide +kernel
theorem dX4_propagate_88 : decode cX4_propagate 88 = Except.ok (Instr.getfield 12, 3) := by decide +kernel
theorem dX4_propagate_91 : decode cX4_propagate 91 = Except.ok (Instr.aload_n 0, 1) := by decide +kernel
theorem dX4_propagate_92 : decode cX4_propagate 92 = Except.ok (Instr.getfield 38, 3) := by decide +kernel
theorem dX4_propagate_95 : decode cX4_propagate 95 = Except.ok (Instr.iconst 0, 1) := by decide +kernel
theorem dX4_propagate_96 : decode cX4_propagate 96 = Except.ok (Instr.laload, 1) := by decide +kernel
theorem dX4_propagate_97 : decode cX4_propagate 97 = Except.ok (Instr.aload_n 0, 1) := by decide +kernel
theorem dX4_propagate_98 : decode cX4_propagate 98 = Except.ok (Instr.getfield 38, 3) := by decide +kernel
theorem dX4_propagate_101 : decode cX4_propagate 101 = Except.ok (Instr.iconst 1, 1) := by decide +kernel
theorem dX4_propagate_102 : decode cX4_propagate 102 = Except.ok (Instr.laload, 1) := by decide +kernel
theorem dX4_propagate_103 : decode cX4_propagate 103 = Except.ok (Instr.aload_n 0, 1) := by decide +kernel
theorem dX4_propagate_104 : decode cX4_propagate 104 = Except.ok (Instr.getfield 38, 3) := by decide +kernel
theorem dX4_propagate_107 : decode cX4_propagate 107 = Except.ok (Instr.iconst 2, 1) := by decide +kernel
theorem dX4_propagate_108 : decode cX4_propagate 108 = Except.ok (Instr.laload, 1) := by decide +kernel
theorem dX4_propagate_109 : decode cX4_propagate 109 = Except.ok (Instr.invokevirtual 116, 3) := by decide +kernel
theorem dX4_propagate_112 : decode cX4_propagate 112 = Except.ok (Instr.goto 73, 3) := by decide +kernel
theorem dX4_propagate_115 : decode cX4_propagate 115 = Except.ok (Instr.aload_n 0, 1) := by decide +kernel
theorem dX4_propagate_116 : decode cX4_propagate 116 = Except.ok (Instr.getfield 32, 3) := by decide +kernel
theorem dX4_propagate_119 : decode cX4_propagate 119 = Except.ok (Instr.aload_n 0, 1) := by decide +kernel
theorem dX4_propagate_120 : decode cX4_propagate 120 = Except.ok (Instr.getfield 38, 3) := by decide +kernel
theorem dX4_propagate_123 : decode cX4_propagate 123 = Except.ok (Instr.aload_n 0, 1) := by decide +kernel
theorem dX4_propagate_124 : decode cX4_propagate 124 = Except.ok (Instr.getfield 44, 3) := by decide +kernel
theorem dX4_propagate_127 : decode cX4_propagate 127 = Except.ok (Instr.invokestatic 118, 3) := by decide +kernel
theorem dX4_propagate_130 : decode cX4_propagate 130 = Except.ok (Instr.aload_n 0, 1) := by decide +kernel
theorem dX4_propagate_131 : decode cX4_propagate 131 = Except.ok (Instr.getfield 12, 3) := by decide +kernel
theorem dX4_propagate_134 : decode cX4_propagate 134 = Except.ok (Instr.aload_n 0, 1) := by decide +kernel
theorem dX4_propagate_135 : decode cX4_propagate 135 = Except.ok (Instr.getfield 38, 3) := by decide +kernel
theorem dX4_propagate_138 : decode cX4_propagate 138 = Except.ok (Instr.iconst 0, 1) := by decide +kernel
theorem dX4_propagate_139 : decode cX4_propagate 139 = Except.ok (Instr.laload, 1) := by decide +kernel
theorem dX4_propagate_140 : decode cX4_propagate 140 = Except.ok (Instr.aload_n 0, 1) := by decide +kernel
theorem dX4_propagate_141 : decode cX4_propagate 141 = Except.ok (Instr.getfield 44, 3) := by decide +kernel
theorem dX4_propagate_144 : decode cX4_propagate 144 = Except.ok (Instr.iconst 0, 1) := by decide +kernel
theorem dX4_propagate_145 : decode cX4_propagate 145 = Except.ok (Instr.laload, 1) := by decide +kernel
theorem dX4_propagate_146 : decode cX4_propagate 146 = Except.ok (Instr.invokestatic 124, 3) := by decide +kernel
theorem dX4_propagate_149 : decode cX4_propagate 149 = Except.ok (Instr.ladd, 1) := by decide +kernel
theorem dX4_propagate_150 : decode cX4_propagate 150 = Except.ok (Instr.aload_n 0, 1) := by decide +kernel
theorem dX4_propagate_151 : decode cX4_propagate 151 = Except.ok (Instr.getfield 38, 3) := by decide +kernel
theorem dX4_propagate_154 : decode cX4_propagate 154 = Except.ok (Instr.iconst 1, 1) := by decide +kernel
theorem dX4_propagate_155 : decode cX4_propagate 155 = Except.ok (Instr.laload, 1) := by decide +kernel
theorem dX4_propagate_156 : decode cX4_propagate 156 = Except.ok (Instr.aload_n 0, 1) := by decide +kernel
theorem dX4_propagate_157 : decode cX4_propagate 157 = Except.ok (Instr.getfield 44, 3) := by decide +kernel
theorem dX4_propagate_160 : decode cX4_propagate 160 = Except.ok (Instr.iconst 1, 1) := by decide +kernel
theorem dX4_propagate_161 : decode cX4_propagate 161 = Except.ok (Instr.laload, 1) := by decide +kernel
theorem dX4_propagate_162 : decode cX4_propagate 162 = Except.ok (Instr.invokestatic 124, 3) := by decide +kernel
theorem dX4_propagate_165 : decode cX4_propagate 165 = Except.ok (Instr.ladd, 1) := by decide +kernel
theorem dX4_propagate_166 : decode cX4_propagate 166 = Except.ok (Instr.aload_n 0, 1) := by decide +kernel
theorem dX4_propagate_167 : decode cX4_propagate 167 = Except.ok (Instr.getfield 38, 3) := by decide +kernel
theorem dX4_propagate_170 : decode cX4_propagate 170 = Except.ok (Instr.iconst 2, 1) := by decide +kernel
theorem dX4_propagate_171 : decode cX4_propagate 171 = Except.ok (Instr.laload, 1) := by decide +kernel
theorem dX4_propagate_172 : decode cX4_propagate 172 = Except.ok (Instr.aload_n 0, 1) := by decide +kernel
theorem dX4_propagate_173 : decode cX4_propagate 173 = Except.ok (Instr.getfield 44, 3) := by decide +kernel
theorem dX4_propagate_176 : decode cX4_propagate 176 = Except.ok (Instr.iconst 2, 1) := by decide +kernel
theorem dX4_propagate_177 : decode cX4_propagate 177 = Except.ok (Instr.laload, 1) := by decide +kernel
theorem dX4_propagate_178 : decode cX4_propagate 178 = Except.ok (Instr.invokestatic 124, 3) := by decide +kernel
theorem dX4_propagate_181 : decode cX4_propagate 181 = Except.ok (Instr.ladd, 1) := by decide +kernel
theorem dX4_propagate_182 : decode cX4_propagate 182 = Except.ok (Instr.invokevirtual 116, 3) := by decide +kernel
theorem dX4_propagate_185 : decode cX4_propagate 185 = Except.ok (Instr.aload_n 0, 1) := by decide +kernel
theorem dX4_propagate_186 : decode cX4_propagate 186 = Except.ok (Instr.getfield 38, 3) := by decide +kernel
theorem dX4_propagate_189 : decode cX4_propagate 189 = Except.ok (Instr.iconst 0, 1) := by decide +kernel
theorem dX4_propagate_190 : decode cX4_propagate 190 = Except.ok (Instr.aload_n 0, 1) := by decide +kernel
theorem dX4_propagate_191 : decode cX4_propagate 191 = Except.ok (Instr.getfield 32, 3) := by decide +kernel
theorem dX4_propagate_194 : decode cX4_propagate 194 = Except.ok (Instr.iconst 0, 1) := by decide +kernel
theorem dX4_propagate_195 : decode cX4_propagate 195 = Except.ok (Instr.iconst 3, 1) := by decide +kernel
theorem dX4_propagate_196 : decode cX4_propagate 196 = Except.ok (Instr.invokestatic 128, 3) := by decide +kernel
theorem dX4_propagate_199 : decode cX4_propagate 199 = Except.ok (Instr.return_, 1) := by decide +kernel
theorem dX4_coning_0 : decode cX4_coning 0 = Except.ok (Instr.lload_n 0, 1) := by decide +kernel
theorem dX4_coning_1 : decode cX4_coning 1 = Except.ok (Instr.bipush 28, 2) := by decide +kernel
theorem dX4_coning_3 : decode cX4_coning 3 = Except.ok (Instr.lshr, 1) := by decide +kernel
theorem dX4_coning_4 : decode cX4_coning 4 = Except.ok (Instr.ldc2_w 134, 3) := by decide +kernel
theorem dX4_coning_7 : decode cX4_coning 7 = Except.ok (Instr.invokestatic 136, 3) := by decide +kernel
theorem dX4_coning_10 : decode cX4_coning 10 = Except.ok (Instr.lreturn, 1) := by decide +kernel
theorem dX4_level_0 : decode cX4_level 0 = Except.ok (Instr.aload_n 0, 1) := by decide +kernel
theorem dX4_level_1 : decode cX4_level 1 = Except.ok (Instr.getfield 63, 3) := by decide +kernel
theorem dX4_level_4 : decode cX4_level 4 = Except.ok (Instr.ifCond .gt 4, 3) := by decide +kernel
theorem dX4_level_7 : decode cX4_level 7 = Except.ok (Instr.return_, 1) := by decide +kernel
theorem dX4_level_8 : decode cX4_level 8 = Except.ok (Instr.aload_n 0, 1) := by decide +kernel
theorem dX4_level_9 : decode cX4_level 9 = Except.ok (Instr.getfield 12, 3) := by decide +kernel
theorem dX4_level_12 : decode cX4_level 12 = Except.ok (Instr.getstatic 142, 3) := by decide +kernel
theorem dX4_level_15 : decode cX4_level 15 = Except.ok (Instr.aload_n 0, 1) := by decide +kernel
theorem dX4_level_16 : decode cX4_level 16 = Except.ok (Instr.getfield 41, 3) := by decide +kernel
theorem dX4_level_19 : decode cX4_level 19 = Except.ok (Instr.invokevirtual 108, 3) := by decide +kernel
theorem dX4_level_22 : decode cX4_level 22 = Except.ok (Instr.aload_n 1, 1) := by decide +kernel
theorem dX4_level_23 : decode cX4_level 23 = Except.ok (Instr.aload_n 0, 1) := by decide +kernel
theorem dX4_level_24 : decode cX4_level 24 = Except.ok (Instr.getfield 41, 3) := by decide +kernel
theorem dX4_level_27 : decode cX4_level 27 = Except.ok (Instr.aload_n 0, 1) := by decide +kernel
theorem dX4_level_28 : decode cX4_level 28 = Except.ok (Instr.getfield 44, 3) := by decide +kernel
theorem dX4_level_31 : decode cX4_level 31 = Except.ok (Instr.invokestatic 118, 3) := by decide +kernel
theorem dX4_level_34 : decode cX4_level 34 = Except.ok (Instr.bipush 28, 2) := by decide +kernel
theorem dX4_level_36 : decode cX4_level 36 = Except.ok (Instr.aload_n 0, 1) := by decide +kernel
theorem dX4_level_37 : decode cX4_level 37 = Except.ok (Instr.getfield 63, 3) := by decide +kernel
theorem dX4_level_40 : decode cX4_level 40 = Except.ok (Instr.iadd, 1) := by decide +kernel
theorem dX4_level_41 : decode cX4_level 41 = Except.ok (Instr.istore_n 2, 1) := by decide +kernel
theorem dX4_level_42 : decode cX4_level 42 = Except.ok (Instr.aload_n 0, 1) := by decide +kernel
theorem dX4_level_43 : decode cX4_level 43 = Except.ok (Instr.getfield 12, 3) := by decide +kernel
theorem dX4_level_46 : decode cX4_level 46 = Except.ok (Instr.aload_n 0, 1) := by decide +kernel
theorem dX4_level_47 : decode cX4_level 47 = Except.ok (Instr.getfield 44, 3) := by decide +kernel
theorem dX4_level_50 : decode cX4_level 50 = Except.ok (Instr.iconst 0, 1) := by decide +kernel
theorem dX4_level_51 : decode cX4_level 51 = Except.ok (Instr.laload, 1) := by decide +kernel
theorem dX4_level_52 : decode cX4_level 52 = Except.ok (Instr.iload_n 2, 1) := by decide +kernel
theorem dX4_level_53 : decode cX4_level 53 = Except.ok (Instr.lshr, 1) := by decide +kernel
theorem dX4_level_54 : decode cX4_level 54 = Except.ok (Instr.aload_n 0, 1) := by decide +kernel
theorem dX4_level_55 : decode cX4_level 55 = Except.ok (Instr.getfield 44, 3) := by decide +kernel
theorem dX4_level_58 : decode cX4_level 58 = Except.ok (Instr.iconst 1, 1) := by decide +kernel
theorem dX4_level_59 : decode cX4_level 59 = Except.ok (Instr.laload, 1) := by decide +kernel
theorem dX4_level_60 : decode cX4_level 60 = Except.ok (Instr.iload_n 2, 1) := by decide +kernel
theorem dX4_level_61 : decode cX4_level 61 = Except.ok (Instr.lshr, 1) := by decide +kernel
theorem dX4_level_62 : decode cX4_level 62 = Except.ok (Instr.aload_n 0, 1) := by decide +kernel
theorem dX4_level_63 : decode cX4_level 63 = Except.ok (Instr.getfield 44, 3) := by decide +kernel
theorem dX4_level_66 : decode cX4_level 66 = Except.ok (Instr.iconst 2, 1) := by decide +kernel
theorem dX4_level_67 : decode cX4_level 67 = Except.ok (Instr.laload, 1) := by decide +kernel
theorem dX4_level_68 : decode cX4_level 68 = Except.ok (Instr.iload_n 2, 1) := by decide +kernel
theorem dX4_level_69 : decode cX4_level 69 = Except.ok (Instr.lshr, 1) := by decide +kernel
theorem dX4_level_70 : decode cX4_level 70 = Except.ok (Instr.invokevirtual 116, 3) := by decide +kernel
theorem dX4_level_73 : decode cX4_level 73 = Except.ok (Instr.return_, 1) := by decide +kernel
theorem dX4_seekNorth_0 : decode cX4_seekNorth 0 = Except.ok (Instr.aload_n 1, 1) := by decide +kernel
theorem dX4_seekNorth_1 : decode cX4_seekNorth 1 = Except.ok (Instr.iconst 0, 1) := by decide +kernel
theorem dX4_seekNorth_2 : decode cX4_seekNorth 2 = Except.ok (Instr.laload, 1) := by decide +kernel
theorem dX4_seekNorth_3 : decode cX4_seekNorth 3 = Except.ok (Instr.aload_n 1, 1) := by decide +kernel
theorem dX4_seekNorth_4 : decode cX4_seekNorth 4 = Except.ok (Instr.iconst 0, 1) := by decide +kernel
theorem dX4_seekNorth_5 : decode cX4_seekNorth 5 = Except.ok (Instr.laload, 1) := by decide +kernel
theorem dX4_seekNorth_6 : decode cX4_seekNorth 6 = Except.ok (Instr.lmul, 1) := by decide +kernel
theorem dX4_seekNorth_7 : decode cX4_seekNorth 7 = Except.ok (Instr.aload_n 1, 1) := by decide +kernel
theorem dX4_seekNorth_8 : decode cX4_seekNorth 8 = Except.ok (Instr.iconst 2, 1) := by decide +kernel
theorem dX4_seekNorth_9 : decode cX4_seekNorth 9 = Except.ok (Instr.laload, 1) := by decide +kernel
theorem dX4_seekNorth_10 : decode cX4_seekNorth 10 = Except.ok (Instr.aload_n 1, 1) := by decide +kernel
theorem dX4_seekNorth_11 : decode cX4_seekNorth 11 = Except.ok (Instr.iconst 2, 1) := by decide +kernel
theorem dX4_seekNorth_12 : decode cX4_seekNorth 12 = Except.ok (Instr.laload, 1) := by decide +kernel
theorem dX4_seekNorth_13 : decode cX4_seekNorth 13 = Except.ok (Instr.lmul, 1) := by decide +kernel
theorem dX4_seekNorth_14 : decode cX4_seekNorth 14 = Except.ok (Instr.ladd, 1) := by decide +kernel
theorem dX4_seekNorth_15 : decode cX4_seekNorth 15 = Except.ok (Instr.lstore_n 2, 1) := by decide +kernel
theorem dX4_seekNorth_16 : decode cX4_seekNorth 16 = Except.ok (Instr.aload_n 0, 1) := by decide +kernel
theorem dX4_seekNorth_17 : decode cX4_seekNorth 17 = Except.ok (Instr.getfield 66, 3) := by decide +kernel
theorem dX4_seekNorth_20 : decode cX4_seekNorth 20 = Except.ok (Instr.ifCond .le 16, 3) := by decide +kernel
theorem dX4_seekNorth_23 : decode cX4_seekNorth 23 = Except.ok (Instr.lload_n 2, 1) := by decide +kernel
theorem dX4_seekNorth_24 : decode cX4_seekNorth 24 = Except.ok (Instr.lconst 0, 1) := by decide +kernel
theorem dX4_seekNorth_25 : decode cX4_seekNorth 25 = Except.ok (Instr.lcmp, 1) := by decide +kernel
theorem dX4_seekNorth_26 : decode cX4_seekNorth 26 = Except.ok (Instr.ifCond .le 10, 3) := by decide +kernel
theorem dX4_seekNorth_29 : decode cX4_seekNorth 29 = Except.ok (Instr.aload_n 0, 1) := by decide +kernel
theorem dX4_seekNorth_30 : decode cX4_seekNorth 30 = Except.ok (Instr.invokevirtual 145, 3) := by decide +kernel
theorem dX4_seekNorth_33 : decode cX4_seekNorth 33 = Except.ok (Instr.ifCond .ne 4, 3) := by decide +kernel
theorem dX4_seekNorth_36 : decode cX4_seekNorth 36 = Except.ok (Instr.return_, 1) := by decide +kernel
theorem dX4_seekNorth_37 : decode cX4_seekNorth 37 = Except.ok (Instr.iconst 0, 1) := by decide +kernel
theorem dX4_seekNorth_38 : decode cX4_seekNorth 38 = Except.ok (Instr.istore 4, 2) := by decide +kernel
theorem dX4_seekNorth_40 : decode cX4_seekNorth 40 = Except.ok (Instr.iload 4, 2) := by decide +kernel
theorem dX4_seekNorth_42 : decode cX4_seekNorth 42 = Except.ok (Instr.iconst 3, 1) := by decide +kernel
theorem dX4_seekNorth_43 : decode cX4_seekNorth 43 = Except.ok (Instr.if_icmp .ge 36, 3) := by decide +kernel
theorem dX4_seekNorth_46 : decode cX4_seekNorth 46 = Except.ok (Instr.aload_n 0, 1) := by decide +kernel
theorem dX4_seekNorth_47 : decode cX4_seekNorth 47 = Except.ok (Instr.getfield 29, 3) := by decide +kernel
theorem dX4_seekNorth_50 : decode cX4_seekNorth 50 = Except.ok (Instr.iload 4, 2) := by decide +kernel
theorem dX4_seekNorth_52 : decode cX4_seekNorth 52 = Except.ok (Instr.dup2, 1) := by decide +kernel
theorem dX4_seekNorth_53 : decode cX4_seekNorth 53 = Except.ok (Instr.laload, 1) := by decide +kernel
theorem dX4_seekNorth_54 : decode cX4_seekNorth 54 = Except.ok (Instr.aload_n 0, 1) := by decide +kernel
theorem dX4_seekNorth_55 : decode cX4_seekNorth 55 = Except.ok (Instr.getfield 35, 3) := by decide +kernel
theorem dX4_seekNorth_58 : decode cX4_seekNorth 58 = Except.ok (Instr.iload 4, 2) := by decide +kernel
theorem dX4_seekNorth_60 : decode cX4_seekNorth 60 = Except.ok (Instr.laload, 1) := by decide +kernel
theorem dX4_seekNorth_61 : decode cX4_seekNorth 61 = Except.ok (Instr.aload_n 0, 1) := by decide +kernel
theorem dX4_seekNorth_62 : decode cX4_seekNorth 62 = Except.ok (Instr.getfield 29, 3) := by decide +kernel
theorem dX4_seekNorth_65 : decode cX4_seekNorth 65 = Except.ok (Instr.iload 4, 2) := by decide +kernel
theorem dX4_seekNorth_67 : decode cX4_seekNorth 67 = Except.ok (Instr.laload, 1) := by decide +kernel
theorem dX4_seekNorth_68 : decode cX4_seekNorth 68 = Except.ok (Instr.lsub, 1) := by decide +kernel
theorem dX4_seekNorth_69 : decode cX4_seekNorth 69 = Except.ok (Instr.iconst 4, 1) := by decide +kernel
theorem dX4_seekNorth_70 : decode cX4_seekNorth 70 = Except.ok (Instr.lshr, 1) := by decide +kernel
theorem dX4_seekNorth_71 : decode cX4_seekNorth 71 = Except.ok (Instr.ladd, 1) := by decide +kernel
theorem dX4_seekNorth_72 : decode cX4_seekNorth 72 = Except.ok (Instr.lastore, 1) := by decide +kernel
theorem dX4_seekNorth_73 : decode cX4_seekNorth 73 = Except.ok (Instr.iinc 4 1, 3) := by decide +kernel
theorem dX4_seekNorth_76 : decode cX4_seekNorth 76 = Except.ok (Instr.goto (-36), 3) := by decide +kernel
theorem dX4_seekNorth_79 : decode cX4_seekNorth 79 = Except.ok (Instr.aload_n 0, 1) := by decide +kernel
theorem dX4_seekNorth_80 : decode cX4_seekNorth 80 = Except.ok (Instr.getfield 12, 3) := by decide +kernel
theorem dX4_seekNorth_83 : decode cX4_seekNorth 83 = Except.ok (Instr.aload_n 1, 1) := by decide +kernel
theorem dX4_seekNorth_84 : decode cX4_seekNorth 84 = Except.ok (Instr.aload_n 0, 1) := by decide +kernel
theorem dX4_seekNorth_85 : decode cX4_seekNorth 85 = Except.ok (Instr.getfield 41, 3) := by decide +kernel
theorem dX4_seekNorth_88 : decode cX4_seekNorth 88 = Except.ok (Instr.invokevirtual 108, 3) := by decide +kernel
theorem dX4_seekNorth_91 : decode cX4_seekNorth 91 = Except.ok (Instr.aload_n 0, 1) := by decide +kernel
theorem dX4_seekNorth_92 : decode cX4_seekNorth 92 = Except.ok (Instr.getfield 29, 3) := by decide +kernel
theorem dX4_seekNorth_95 : decode cX4_seekNorth 95 = Except.ok (Instr.aload_n 0, 1) := by decide +kernel
theorem dX4_seekNorth_96 : decode cX4_seekNorth 96 = Except.ok (Instr.getfield 41, 3) := by decide +kernel
theorem dX4_seekNorth_99 : decode cX4_seekNorth 99 = Except.ok (Instr.aload_n 0, 1) := by decide +kernel
theorem dX4_seekNorth_100 : decode cX4_seekNorth 100 = Except.ok (Instr.getfield 44, 3) := by decide +kernel
theorem dX4_seekNorth_103 : decode cX4_seekNorth 103 = Except.ok (Instr.invokestatic 118, 3) := by decide +kernel
theorem dX4_seekNorth_106 : decode cX4_seekNorth 106 = Except.ok (Instr.aload_n 0, 1) := by decide +kernel
theorem dX4_seekNorth_107 : decode cX4_seekNorth 107 = Except.ok (Instr.getfield 12, 3) := by decide +kernel
theorem dX4_seekNorth_110 : decode cX4_seekNorth 110 = Except.ok (Instr.aload_n 0, 1) := by decide +kernel
theorem dX4_seekNorth_111 : decode cX4_seekNorth 111 = Except.ok (Instr.aload_n 0, 1) := by decide +kernel
theorem dX4_seekNorth_112 : decode cX4_seekNorth 112 = Except.ok (Instr.getfield 44, 3) := by decide +kernel
theorem dX4_seekNorth_115 : decode cX4_seekNorth 115 = Except.ok (Instr.iconst 0, 1) := by decide +kernel
theorem dX4_seekNorth_116 : decode cX4_seekNorth 116 = Except.ok (Instr.laload, 1) := by decide +kernel
theorem dX4_seekNorth_117 : decode cX4_seekNorth 117 = Except.ok (Instr.lload_n 2, 1) := by decide +kernel
theorem dX4_seekNorth_118 : decode cX4_seekNorth 118 = Except.ok (Instr.invokevirtual 149, 3) := by decide +kernel
theorem dX4_seekNorth_121 : decode cX4_seekNorth 121 = Except.ok (Instr.aload_n 0, 1) := by decide +kernel
theorem dX4_seekNorth_122 : decode cX4_seekNorth 122 = Except.ok (Instr.aload_n 0, 1) := by decide +kernel
theorem dX4_seekNorth_123 : decode cX4_seekNorth 123 = Except.ok (Instr.getfield 44, 3) := by decide +kernel
theorem dX4_seekNorth_126 : decode cX4_seekNorth 126 = Except.ok (Instr.iconst 1, 1) := by decide +kernel
theorem dX4_seekNorth_127 : decode cX4_seekNorth 127 = Except.ok (Instr.laload, 1) := by decide +kernel
theorem dX4_seekNorth_128 : decode cX4_seekNorth 128 = Except.ok (Instr.lload_n 2, 1) := by decide +kernel
theorem dX4_seekNorth_129 : decode cX4_seekNorth 129 = Except.ok (Instr.invokevirtual 149, 3) := by decide +kernel
theorem dX4_seekNorth_132 : decode cX4_seekNorth 132 = Except.ok (Instr.aload_n 0, 1) := by decide +kernel
theorem dX4_seekNorth_133 : decode cX4_seekNorth 133 = Except.ok (Instr.aload_n 0, 1) := by decide +kernel
theorem dX4_seekNorth_134 : decode cX4_seekNorth 134 = Except.ok (Instr.getfield 44, 3) := by decide +kernel
theorem dX4_seekNorth_137 : decode cX4_seekNorth 137 = Except.ok (Instr.iconst 2, 1) := by decide +kernel
theorem dX4_seekNorth_138 : decode cX4_seekNorth 138 = Except.ok (Instr.laload, 1) := by decide +kernel
theorem dX4_seekNorth_139 : decode cX4_seekNorth 139 = Except.ok (Instr.lload_n 2, 1) := by decide +kernel
theorem dX4_seekNorth_140 : decode cX4_seekNorth 140 = Except.ok (Instr.invokevirtual 149, 3) := by decide +kernel
theorem dX4_seekNorth_143 : decode cX4_seekNorth 143 = Except.ok (Instr.invokevirtual 116, 3) := by decide +kernel
theorem dX4_seekNorth_146 : decode cX4_seekNorth 146 = Except.ok (Instr.return_, 1) := by decide +kernel
theorem dX4_isSlow_0 : decode cX4_isSlow 0 = Except.ok (Instr.iconst 0, 1) := by decide +kernel
theorem dX4_isSlow_1 : decode cX4_isSlow 1 = Except.ok (Instr.istore_n 1, 1) := by decide +kernel
theorem dX4_isSlow_2 : decode cX4_isSlow 2 = Except.ok (Instr.iload_n 1, 1) := by decide +kernel
theorem dX4_isSlow_3 : decode cX4_isSlow 3 = Except.ok (Instr.iconst 3, 1) := by decide +kernel
theorem dX4_isSlow_4 : decode cX4_isSlow 4 = Except.ok (Instr.if_icmp .ge 26, 3) := by decide +kernel
theorem dX4_isSlow_7 : decode cX4_isSlow 7 = Except.ok (Instr.aload_n 0, 1) := by decide +kernel
theorem dX4_isSlow_8 : decode cX4_isSlow 8 = Except.ok (Instr.getfield 35, 3) := by decide +kernel
theorem dX4_isSlow_11 : decode cX4_isSlow 11 = Except.ok (Instr.iload_n 1, 1) := by decide +kernel
theorem dX4_isSlow_12 : decode cX4_isSlow 12 = Except.ok (Instr.laload, 1) := by decide +kernel
theorem dX4_isSlow_13 : decode cX4_isSlow 13 = Except.ok (Instr.ldc2_w 152, 3) := by decide +kernel
theorem dX4_isSlow_16 : decode cX4_isSlow 16 = Except.ok (Instr.invokestatic 154, 3) := by decide +kernel
theorem dX4_isSlow_19 : decode cX4_isSlow 19 = Except.ok (Instr.ifCond .ne 5, 3) := by decide +kernel
theorem dX4_isSlow_22 : decode cX4_isSlow 22 = Except.ok (Instr.iconst 0, 1) := by decide +kernel
theorem dX4_isSlow_23 : decode cX4_isSlow 23 = Except.ok (Instr.ireturn, 1) := by decide +kernel
theorem dX4_isSlow_24 : decode cX4_isSlow 24 = Except.ok (Instr.iinc 1 1, 3) := by decide +kernel
theorem dX4_isSlow_27 : decode cX4_isSlow 27 = Except.ok (Instr.goto (-25), 3) := by decide +kernel
theorem dX4_isSlow_30 : decode cX4_isSlow 30 = Except.ok (Instr.iconst 1, 1) := by decide +kernel
theorem dX4_isSlow_31 : decode cX4_isSlow 31 = Except.ok (Instr.ireturn, 1) := by decide +kernel
theorem dX4_headingTurn_0 : decode cX4_headingTurn 0 = Except.ok (Instr.lload_n 3, 1) := by decide +kernel
theorem dX4_headingTurn_1 : decode cX4_headingTurn 1 = Except.ok (Instr.lconst 0, 1) := by decide +kernel
theorem dX4_headingTurn_2 : decode cX4_headingTurn 2 = Except.ok (Instr.lcmp, 1) := by decide +kernel
theorem dX4_headingTurn_3 : decode cX4_headingTurn 3 = Except.ok (Instr.ifCond .gt 5, 3) := by decide +kernel
theorem dX4_headingTurn_6 : decode cX4_headingTurn 6 = Except.ok (Instr.lconst 0, 1) := by decide +kernel
theorem dX4_headingTurn_7 : decode cX4_headingTurn 7 = Except.ok (Instr.lreturn, 1) := by decide +kernel
theorem dX4_headingTurn_8 : decode cX4_headingTurn 8 = Except.ok (Instr.lload_n 1, 1) := by decide +kernel
theorem dX4_headingTurn_9 : decode cX4_headingTurn 9 = Except.ok (Instr.bipush 20, 2) := by decide +kernel
theorem dX4_headingTurn_11 : decode cX4_headingTurn 11 = Except.ok (Instr.lshl, 1) := by decide +kernel
theorem dX4_headingTurn_12 : decode cX4_headingTurn 12 = Except.ok (Instr.lload_n 3, 1) := by decide +kernel
theorem dX4_headingTurn_13 : decode cX4_headingTurn 13 = Except.ok (Instr.invokestatic 136, 3) := by decide +kernel
theorem dX4_headingTurn_16 : decode cX4_headingTurn 16 = Except.ok (Instr.bipush 8, 2) := by decide +kernel
theorem dX4_headingTurn_18 : decode cX4_headingTurn 18 = Except.ok (Instr.lshl, 1) := by decide +kernel
theorem dX4_headingTurn_19 : decode cX4_headingTurn 19 = Except.ok (Instr.aload_n 0, 1) := by decide +kernel
theorem dX4_headingTurn_20 : decode cX4_headingTurn 20 = Except.ok (Instr.getfield 66, 3) := by decide +kernel
theorem dX4_headingTurn_23 : decode cX4_headingTurn 23 = Except.ok (Instr.lshr, 1) := by decide +kernel
theorem dX4_headingTurn_24 : decode cX4_headingTurn 24 = Except.ok (Instr.ldc2_w 158, 3) := by decide +kernel
theorem dX4_headingTurn_27 : decode cX4_headingTurn 27 = Except.ok (Instr.invokestatic 160, 3) := by decide +kernel
theorem dX4_headingTurn_30 : decode cX4_headingTurn 30 = Except.ok (Instr.lreturn, 1) := by decide +kernel
theorem dX4_calibrate_0 : decode cX4_calibrate 0 = Except.ok (Instr.aload_n 0, 1) := by decide +kernel
theorem dX4_calibrate_1 : decode cX4_calibrate 1 = Except.ok (Instr.getfield 21, 3) := by decide +kernel
theorem dX4_calibrate_4 : decode cX4_calibrate 4 = Except.ok (Instr.invokevirtual 163, 3) := by decide +kernel
theorem dX4_calibrate_7 : decode cX4_calibrate 7 = Except.ok (Instr.ifCond .ne 4, 3) := by decide +kernel
theorem dX4_calibrate_10 : decode cX4_calibrate 10 = Except.ok (Instr.return_, 1) := by decide +kernel
theorem dX4_calibrate_11 : decode cX4_calibrate 11 = Except.ok (Instr.aload_n 0, 1) := by decide +kernel
theorem dX4_calibrate_12 : decode cX4_calibrate 12 = Except.ok (Instr.getfield 12, 3) := by decide +kernel
theorem dX4_calibrate_15 : decode cX4_calibrate 15 = Except.ok (Instr.aload_n 1, 1) := by decide +kernel
theorem dX4_calibrate_16 : decode cX4_calibrate 16 = Except.ok (Instr.aload_n 0, 1) := by decide +kernel
theorem dX4_calibrate_17 : decode cX4_calibrate 17 = Except.ok (Instr.getfield 41, 3) := by decide +kernel
theorem dX4_calibrate_20 : decode cX4_calibrate 20 = Except.ok (Instr.invokevirtual 108, 3) := by decide +kernel
theorem dX4_calibrate_23 : decode cX4_calibrate 23 = Except.ok (Instr.iconst 0, 1) := by decide +kernel
theorem dX4_calibrate_24 : decode cX4_calibrate 24 = Except.ok (Instr.istore_n 2, 1) := by decide +kernel
theorem dX4_calibrate_25 : decode cX4_calibrate 25 = Except.ok (Instr.iload_n 2, 1) := by decide +kernel
theorem dX4_calibrate_26 : decode cX4_calibrate 26 = Except.ok (Instr.iconst 3, 1) := by decide +kernel
theorem dX4_calibrate_27 : decode cX4_calibrate 27 = Except.ok (Instr.if_icmp .ge 30, 3) := by decide +kernel
theorem dX4_calibrate_30 : decode cX4_calibrate 30 = Except.ok (Instr.aload_n 0, 1) := by decide +kernel
theorem dX4_calibrate_31 : decode cX4_calibrate 31 = Except.ok (Instr.getfield 25, 3) := by decide +kernel
theorem dX4_calibrate_34 : decode cX4_calibrate 34 = Except.ok (Instr.iload_n 2, 1) := by decide +kernel
theorem dX4_calibrate_35 : decode cX4_calibrate 35 = Except.ok (Instr.aload_n 0, 1) := by decide +kernel
theorem dX4_calibrate_36 : decode cX4_calibrate 36 = Except.ok (Instr.getfield 21, 3) := by decide +kernel
theorem dX4_calibrate_39 : decode cX4_calibrate 39 = Except.ok (Instr.iload_n 2, 1) := by decide +kernel
theorem dX4_calibrate_40 : decode cX4_calibrate 40 = Except.ok (Instr.invokevirtual 166, 3) := by decide +kernel
theorem dX4_calibrate_43 : decode cX4_calibrate 43 = Except.ok (Instr.aload_n 0, 1) := by decide +kernel
theorem dX4_calibrate_44 : decode cX4_calibrate 44 = Except.ok (Instr.getfield 41, 3) := by decide +kernel
theorem dX4_calibrate_47 : decode cX4_calibrate 47 = Except.ok (Instr.iload_n 2, 1) := by decide +kernel
theorem dX4_calibrate_48 : decode cX4_calibrate 48 = Except.ok (Instr.laload, 1) := by decide +kernel
theorem dX4_calibrate_49 : decode cX4_calibrate 49 = Except.ok (Instr.lsub, 1) := by decide +kernel
theorem dX4_calibrate_50 : decode cX4_calibrate 50 = Except.ok (Instr.lastore, 1) := by decide +kernel
theorem dX4_calibrate_51 : decode cX4_calibrate 51 = Except.ok (Instr.iinc 2 1, 3) := by decide +kernel
theorem dX4_calibrate_54 : decode cX4_calibrate 54 = Except.ok (Instr.goto (-29), 3) := by decide +kernel
theorem dX4_calibrate_57 : decode cX4_calibrate 57 = Except.ok (Instr.return_, 1) := by decide +kernel
theorem dX8_init_0 : decode cX8_init 0 = Except.ok (Instr.aload_n 0, 1) := by decide +kernel
theorem dX8_init_1 : decode cX8_init 1 = Except.ok (Instr.invokespecial 1, 3) := by decide +kernel
theorem dX8_init_4 : decode cX8_init 4 = Except.ok (Instr.aload_n 0, 1) := by decide +kernel
theorem dX8_init_5 : decode cX8_init 5 = Except.ok (Instr.new 7, 3) := by decide +kernel
theorem dX8_init_8 : decode cX8_init 8 = Except.ok (Instr.dup, 1) := by decide +kernel
theorem dX8_init_9 : decode cX8_init 9 = Except.ok (Instr.invokespecial 9, 3) := by decide +kernel
theorem dX8_init_12 : decode cX8_init 12 = Except.ok (Instr.putfield 10, 3) := by decide +kernel
theorem dX8_init_15 : decode cX8_init 15 = Except.ok (Instr.aload_n 0, 1) := by decide +kernel
theorem dX8_init_16 : decode cX8_init 16 = Except.ok (Instr.new 16, 3) := by decide +kernel
theorem dX8_init_19 : decode cX8_init 19 = Except.ok (Instr.dup, 1) := by decide +kernel
theorem dX8_init_20 : decode cX8_init 20 = Except.ok (Instr.invokespecial 18, 3) := by decide +kernel
theorem dX8_init_23 : decode cX8_init 23 = Except.ok (Instr.putfield 19, 3) := by decide +kernel
theorem dX8_init_26 : decode cX8_init 26 = Except.ok (Instr.aload_n 0, 1) := by decide +kernel
theorem dX8_init_27 : decode cX8_init 27 = Except.ok (Instr.new 23, 3) := by decide +kernel
theorem dX8_init_30 : decode cX8_init 30 = Except.ok (Instr.dup, 1) := by decide +kernel
theorem dX8_init_31 : decode cX8_init 31 = Except.ok (Instr.invokespecial 25, 3) := by decide +kernel
theorem dX8_init_34 : decode cX8_init 34 = Except.ok (Instr.putfield 26, 3) := by decide +kernel
theorem dX8_init_37 : decode cX8_init 37 = Except.ok (Instr.aload_n 0, 1) := by decide +kernel
theorem dX8_init_38 : decode cX8_init 38 = Except.ok (Instr.new 30, 3) := by decide +kernel
theorem dX8_init_41 : decode cX8_init 41 = Except.ok (Instr.dup, 1) := by decide +kernel
theorem dX8_init_42 : decode cX8_init 42 = Except.ok (Instr.invokespecial 32, 3) := by decide +kernel
theorem dX8_init_45 : decode cX8_init 45 = Except.ok (Instr.putfield 33, 3) := by decide +kernel
theorem dX8_init_48 : decode cX8_init 48 = Except.ok (Instr.aload_n 0, 1) := by decide +kernel
theorem dX8_init_49 : decode cX8_init 49 = Except.ok (Instr.new 37, 3) := by decide +kernel
theorem dX8_init_52 : decode cX8_init 52 = Except.ok (Instr.dup, 1) := by decide +kernel
theorem dX8_init_53 : decode cX8_init 53 = Except.ok (Instr.invokespecial 39, 3) := by decide +kernel
theorem dX8_init_56 : decode cX8_init 56 = Except.ok (Instr.putfield 40, 3) := by decide +kernel
theorem dX8_init_59 : decode cX8_init 59 = Except.ok (Instr.aload_n 0, 1) := by decide +kernel
theorem dX8_init_60 : decode cX8_init 60 = Except.ok (Instr.new 44, 3) := by decide +kernel
theorem dX8_init_63 : decode cX8_init 63 = Except.ok (Instr.dup, 1) := by decide +kernel
theorem dX8_init_64 : decode cX8_init 64 = Except.ok (Instr.invokespecial 46, 3) := by decide +kernel
theorem dX8_init_67 : decode cX8_init 67 = Except.ok (Instr.putfield 47, 3) := by decide +kernel
theorem dX8_init_70 : decode cX8_init 70 = Except.ok (Instr.aload_n 0, 1) := by decide +kernel
theorem dX8_init_71 : decode cX8_init 71 = Except.ok (Instr.iconst 3, 1) := by decide +kernel
theorem dX8_init_72 : decode cX8_init 72 = Except.ok (Instr.newarray .long, 2) := by decide +kernel
theorem dX8_init_74 : decode cX8_init 74 = Except.ok (Instr.putfield 51, 3) := by decide +kernel
theorem dX8_init_77 : decode cX8_init 77 = Except.ok (Instr.aload_n 0, 1) := by decide +kernel
theorem dX8_init_78 : decode cX8_init 78 = Except.ok (Instr.iconst 3, 1) := by decide +kernel
theorem dX8_init_79 : decode cX8_init 79 = Except.ok (Instr.newarray .long, 2) := by decide +kernel
theorem dX8_init_81 : decode cX8_init 81 = Except.ok (Instr.putfield 55, 3) := by decide +kernel
theorem dX8_init_84 : decode cX8_init 84 = Except.ok (Instr.aload_n 0, 1) := by decide +kernel
theorem dX8_init_85 : decode cX8_init 85 = Except.ok (Instr.iconst 3, 1) := by decide +kernel
theorem dX8_init_86 : decode cX8_init 86 = Except.ok (Instr.newarray .long, 2) := by decide +kernel
theorem dX8_init_88 : decode cX8_init 88 = Except.ok (Instr.putfield 58, 3) := by decide +kernel
theorem dX8_init_91 : decode cX8_init 91 = Except.ok (Instr.aload_n 0, 1) := by decide +kernel
theorem dX8_init_92 : decode cX8_init 92 = Except.ok (Instr.iconst 3, 1) := by decide +kernel
theorem dX8_init_93 : decode cX8_init 93 = Except.ok (Instr.newarray .long, 2) := by decide +kernel
theorem dX8_init_95 : decode cX8_init 95 = Except.ok (Instr.putfield 61, 3) := by decide +kernel
theorem dX8_init_98 : decode cX8_init 98 = Except.ok (Instr.aload_n 0, 1) := by decide +kernel
theorem dX8_init_99 : decode cX8_init 99 = Except.ok (Instr.iconst 3, 1) := by decide +kernel
theorem dX8_init_100 : decode cX8_init 100 = Except.ok (Instr.newarray .long, 2) := by decide +kernel
theorem dX8_init_102 : decode cX8_init 102 = Except.ok (Instr.putfield 64, 3) := by decide +kernel
theorem dX8_init_105 : decode cX8_init 105 = Except.ok (Instr.return_, 1) := by decide +kernel
theorem dX8_setGyro_0 : decode cX8_setGyro 0 = Except.ok (Instr.iload_n 1, 1) := by decide +kernel
theorem dX8_setGyro_1 : decode cX8_setGyro 1 = Except.ok (Instr.invokestatic 67, 3) := by decide +kernel
theorem dX8_setGyro_4 : decode cX8_setGyro 4 = Except.ok (Instr.ifCond .eq 49, 3) := by decide +kernel
theorem dX8_setGyro_7 : decode cX8_setGyro 7 = Except.ok (Instr.iload_n 2, 1) := by decide +kernel
theorem dX8_setGyro_8 : decode cX8_setGyro 8 = Except.ok (Instr.i2l, 1) := by decide +kernel
theorem dX8_setGyro_9 : decode cX8_setGyro 9 = Except.ok (Instr.ldc2_w 73, 3) := by decide +kernel
theorem dX8_setGyro_12 : decode cX8_setGyro 12 = Except.ok (Instr.invokestatic 75, 3) := by decide +kernel
theorem dX8_setGyro_15 : decode cX8_setGyro 15 = Except.ok (Instr.ifCond .eq 38, 3) := by decide +kernel
theorem dX8_setGyro_18 : decode cX8_setGyro 18 = Except.ok (Instr.iload_n 3, 1) := by decide +kernel
theorem dX8_setGyro_19 : decode cX8_setGyro 19 = Except.ok (Instr.i2l, 1) := by decide +kernel
theorem dX8_setGyro_20 : decode cX8_setGyro 20 = Except.ok (Instr.ldc2_w 79, 3) := by decide +kernel
theorem dX8_setGyro_23 : decode cX8_setGyro 23 = Except.ok (Instr.invokestatic 75, 3) := by decide +kernel
theorem dX8_setGyro_26 : decode cX8_setGyro 26 = Except.ok (Instr.ifCond .eq 27, 3) := by decide +kernel
theorem dX8_setGyro_29 : decode cX8_setGyro 29 = Except.ok (Instr.iload 4, 2) := by decide +kernel
theorem dX8_setGyro_31 : decode cX8_setGyro 31 = Except.ok (Instr.iconst 0, 1) := by decide +kernel
theorem dX8_setGyro_32 : decode cX8_setGyro 32 = Except.ok (Instr.sipush 10000, 3) := by decide +kernel
theorem dX8_setGyro_35 : decode cX8_setGyro 35 = Except.ok (Instr.invokestatic 81, 3) := by decide +kernel
theorem dX8_setGyro_38 : decode cX8_setGyro 38 = Except.ok (Instr.ifCond .eq 15, 3) := by decide +kernel
theorem dX8_setGyro_41 : decode cX8_setGyro 41 = Except.ok (Instr.iload 5, 2) := by decide +kernel
theorem dX8_setGyro_43 : decode cX8_setGyro 43 = Except.ok (Instr.i2l, 1) := by decide +kernel
theorem dX8_setGyro_44 : decode cX8_setGyro 44 = Except.ok (Instr.ldc2_w 85, 3) := by decide +kernel
theorem dX8_setGyro_47 : decode cX8_setGyro 47 = Except.ok (Instr.invokestatic 75, 3) := by decide +kernel
theorem dX8_setGyro_50 : decode cX8_setGyro 50 = Except.ok (Instr.ifCond .ne 6, 3) := by decide +kernel
theorem dX8_setGyro_53 : decode cX8_setGyro 53 = Except.ok (Instr.bipush (-2), 2) := by decide +kernel
theorem dX8_setGyro_55 : decode cX8_setGyro 55 = Except.ok (Instr.ireturn, 1) := by decide +kernel
theorem dX8_setGyro_56 : decode cX8_setGyro 56 = Except.ok (Instr.aload_n 0, 1) := by decide +kernel
theorem dX8_setGyro_57 : decode cX8_setGyro 57 = Except.ok (Instr.getfield 26, 3) := by decide +kernel
theorem dX8_setGyro_60 : decode cX8_setGyro 60 = Except.ok (Instr.iload_n 1, 1) := by decide +kernel
theorem dX8_setGyro_61 : decode cX8_setGyro 61 = Except.ok (Instr.iload_n 2, 1) := by decide +kernel
theorem dX8_setGyro_62 : decode cX8_setGyro 62 = Except.ok (Instr.iload_n 3, 1) := by decide +kernel
theorem dX8_setGyro_63 : decode cX8_setGyro 63 = Except.ok (Instr.iload 4, 2) := by decide +kernel
theorem dX8_setGyro_65 : decode cX8_setGyro 65 = Except.ok (Instr.iload 5, 2) := by decide +kernel
theorem dX8_setGyro_67 : decode cX8_setGyro 67 = Except.ok (Instr.invokevirtual 87, 3) := by decide +kernel
theorem dX8_setGyro_70 : decode cX8_setGyro 70 = Except.ok (Instr.iconst 0, 1) := by decide +kernel
theorem dX8_setGyro_71 : decode cX8_setGyro 71 = Except.ok (Instr.ireturn, 1) := by decide +kernel
theorem dX8_setAccelerometer_0 : decode cX8_setAccelerometer 0 = Except.ok (Instr.iload_n 1, 1) := by decide +kernel
theorem dX8_setAccelerometer_1 : decode cX8_setAccelerometer 1 = Except.ok (Instr.invokestatic 67, 3) := by decide +kernel
theorem dX8_setAccelerometer_4 : decode cX8_setAccelerometer 4 = Except.ok (Instr.ifCond .eq 14, 3) := by decide +kernel
theorem dX8_setAccelerometer_7 : decode cX8_setAccelerometer 7 = Except.ok (Instr.iload_n 2, 1) := by decide +kernel
theorem dX8_setAccelerometer_8 : decode cX8_setAccelerometer 8 = Except.ok (Instr.i2l, 1) := by decide +kernel
theorem dX8_setAccelerometer_9 : decode cX8_setAccelerometer 9 = Except.ok (Instr.ldc2_w 91, 3) := by decide +kernel
theorem dX8_setAccelerometer_12 : decode cX8_setAccelerometer 12 = Except.ok (Instr.invokestatic 75, 3) := by decide +kernel
theorem dX8_setAccelerometer_15 : decode cX8_setAccelerometer 15 = Except.ok (Instr.ifCond .ne 6, 3) := by decide +kernel
theorem dX8_setAccelerometer_18 : decode cX8_setAccelerometer 18 = Except.ok (Instr.bipush (-2), 2) := by decide +kernel
theorem dX8_setAccelerometer_20 : decode cX8_setAccelerometer 20 = Except.ok (Instr.ireturn, 1) := by decide +kernel
theorem dX8_setAccelerometer_21 : decode cX8_setAccelerometer 21 = Except.ok (Instr.aload_n 0, 1) := by decide +kernel
theorem dX8_setAccelerometer_22 : decode cX8_setAccelerometer 22 = Except.ok (Instr.getfield 26, 3) := by decide +kernel
theorem dX8_setAccelerometer_25 : decode cX8_setAccelerometer 25 = Except.ok (Instr.iload_n 1, 1) := by decide +kernel
theorem dX8_setAccelerometer_26 : decode cX8_setAccelerometer 26 = Except.ok (Instr.iload_n 2, 1) := by decide +kernel
theorem dX8_setAccelerometer_27 : decode cX8_setAccelerometer 27 = Except.ok (Instr.invokevirtual 93, 3) := by decide +kernel
theorem dX8_setAccelerometer_30 : decode cX8_setAccelerometer 30 = Except.ok (Instr.iconst 0, 1) := by decide +kernel
theorem dX8_setAccelerometer_31 : decode cX8_setAccelerometer 31 = Except.ok (Instr.ireturn, 1) := by decide +kernel
theorem dX8_setEarthRate_0 : decode cX8_setEarthRate 0 = Except.ok (Instr.iload_n 1, 1) := by decide +kernel
theorem dX8_setEarthRate_1 : decode cX8_setEarthRate 1 = Except.ok (Instr.i2l, 1) := by decide +kernel
theorem dX8_setEarthRate_2 : decode cX8_setEarthRate 2 = Except.ok (Instr.ldc2_w 97, 3) := by decide +kernel
theorem dX8_setEarthRate_5 : decode cX8_setEarthRate 5 = Except.ok (Instr.invokestatic 75, 3) := by decide +kernel
theorem dX8_setEarthRate_8 : decode cX8_setEarthRate 8 = Except.ok (Instr.ifCond .eq 14, 3) := by decide +kernel
theorem dX8_setEarthRate_11 : decode cX8_setEarthRate 11 = Except.ok (Instr.iload_n 2, 1) := by decide +kernel
theorem dX8_setEarthRate_12 : decode cX8_setEarthRate 12 = Except.ok (Instr.i2l, 1) := by decide +kernel
theorem dX8_setEarthRate_13 : decode cX8_setEarthRate 13 = Except.ok (Instr.ldc2_w 97, 3) := by decide +kernel
theorem dX8_setEarthRate_16 : decode cX8_setEarthRate 16 = Except.ok (Instr.invokestatic 75, 3) := by decide +kernel
theorem dX8_setEarthRate_19 : decode cX8_setEarthRate 19 = Except.ok (Instr.ifCond .ne 6, 3) := by decide +kernel
theorem dX8_setEarthRate_22 : decode cX8_setEarthRate 22 = Except.ok (Instr.bipush (-2), 2) := by decide +kernel
theorem dX8_setEarthRate_24 : decode cX8_setEarthRate 24 = Except.ok (Instr.ireturn, 1) := by decide +kernel
theorem dX8_setEarthRate_25 : decode cX8_setEarthRate 25 = Except.ok (Instr.aload_n 0, 1) := by decide +kernel
theorem dX8_setEarthRate_26 : decode cX8_setEarthRate 26 = Except.ok (Instr.getfield 51, 3) := by decide +kernel
theorem dX8_setEarthRate_29 : decode cX8_setEarthRate 29 = Except.ok (Instr.iconst 0, 1) := by decide +kernel
theorem dX8_setEarthRate_30 : decode cX8_setEarthRate 30 = Except.ok (Instr.iload_n 1, 1) := by decide +kernel
theorem dX8_setEarthRate_31 : decode cX8_setEarthRate 31 = Except.ok (Instr.i2l, 1) := by decide +kernel
theorem dX8_setEarthRate_32 : decode cX8_setEarthRate 32 = Except.ok (Instr.lastore, 1) := by decide +kernel
theorem dX8_setEarthRate_33 : decode cX8_setEarthRate 33 = Except.ok (Instr.aload_n 0, 1) := by decide +kernel
theorem dX8_setEarthRate_34 : decode cX8_setEarthRate 34 = Except.ok (Instr.getfield 51, 3) := by decide +kernel
theorem dX8_setEarthRate_37 : decode cX8_setEarthRate 37 = Except.ok (Instr.iconst 2, 1) := by decide +kernel
theorem dX8_setEarthRate_38 : decode cX8_setEarthRate 38 = Except.ok (Instr.iload_n 2, 1) := by decide +kernel
theorem dX8_setEarthRate_39 : decode cX8_setEarthRate 39 = Except.ok (Instr.i2l, 1) := by decide +kernel
theorem dX8_setEarthRate_40 : decode cX8_setEarthRate 40 = Except.ok (Instr.lastore, 1) := by decide +kernel
theorem dX8_setEarthRate_41 : decode cX8_setEarthRate 41 = Except.ok (Instr.iconst 0, 1) := by decide +kernel
theorem dX8_setEarthRate_42 : decode cX8_setEarthRate 42 = Except.ok (Instr.ireturn, 1) := by decide +kernel
theorem dX8_setTemperature_0 : decode cX8_setTemperature 0 = Except.ok (Instr.iload_n 1, 1) := by decide +kernel
theorem dX8_setTemperature_1 : decode cX8_setTemperature 1 = Except.ok (Instr.bipush (-40), 2) := by decide +kernel
theorem dX8_setTemperature_3 : decode cX8_setTemperature 3 = Except.ok (Instr.bipush 85, 2) := by decide +kernel
theorem dX8_setTemperature_5 : decode cX8_setTemperature 5 = Except.ok (Instr.invokestatic 81, 3) := by decide +kernel
theorem dX8_setTemperature_8 : decode cX8_setTemperature 8 = Except.ok (Instr.ifCond .ne 7, 3) := by decide +kernel
theorem dX8_setTemperature_11 : decode cX8_setTemperature 11 = Except.ok (Instr.sipush (-1000), 3) := by decide +kernel
theorem dX8_setTemperature_14 : decode cX8_setTemperature 14 = Except.ok (Instr.ireturn, 1) := by decide +kernel
theorem dX8_setTemperature_15 : decode cX8_setTemperature 15 = Except.ok (Instr.aload_n 0, 1) := by decide +kernel
theorem dX8_setTemperature_16 : decode cX8_setTemperature 16 = Except.ok (Instr.getfield 26, 3) := by decide +kernel
theorem dX8_setTemperature_19 : decode cX8_setTemperature 19 = Except.ok (Instr.iload_n 1, 1) := by decide +kernel
theorem dX8_setTemperature_20 : decode cX8_setTemperature 20 = Except.ok (Instr.invokevirtual 99, 3) := by decide +kernel
theorem dX8_setTemperature_23 : decode cX8_setTemperature 23 = Except.ok (Instr.ireturn, 1) := by decide +kernel
theorem dX8_setSeed_0 : decode cX8_setSeed 0 = Except.ok (Instr.aload_n 0, 1) := by decide +kernel
theorem dX8_setSeed_1 : decode cX8_setSeed 1 = Except.ok (Instr.getfield 26, 3) := by decide +kernel
theorem dX8_setSeed_4 : decode cX8_setSeed 4 = Except.ok (Instr.iload_n 1, 1) := by decide +kernel
theorem dX8_setSeed_5 : decode cX8_setSeed 5 = Except.ok (Instr.invokevirtual 103, 3) := by decide +kernel
theorem dX8_setSeed_8 : decode cX8_setSeed 8 = Except.ok (Instr.ireturn, 1) := by decide +kernel
theorem dX8_addSegment_0 : decode cX8_addSegment 0 = Except.ok (Instr.iload_n 1, 1) := by decide +kernel
theorem dX8_addSegment_1 : decode cX8_addSegment 1 = Except.ok (Instr.iconst 1, 1) := by decide +kernel
theorem dX8_addSegment_2 : decode cX8_addSegment 2 = Except.ok (Instr.sipush 1000, 3) := by decide +kernel
theorem dX8_addSegment_5 : decode cX8_addSegment 5 = Except.ok (Instr.invokestatic 81, 3) := by decide +kernel
theorem dX8_addSegment_8 : decode cX8_addSegment 8 = Except.ok (Instr.ifCond .eq 13, 3) := by decide +kernel
theorem dX8_addSegment_11 : decode cX8_addSegment 11 = Except.ok (Instr.iload_n 2, 1) := by decide +kernel
theorem dX8_addSegment_12 : decode cX8_addSegment 12 = Except.ok (Instr.iload_n 3, 1) := by decide +kernel
theorem dX8_addSegment_13 : decode cX8_addSegment 13 = Except.ok (Instr.iload 4, 2) := by decide +kernel
theorem dX8_addSegment_15 : decode cX8_addSegment 15 = Except.ok (Instr.invokestatic 106, 3) := by decide +kernel
theorem dX8_addSegment_18 : decode cX8_addSegment 18 = Except.ok (Instr.ifCond .ne 6, 3) := by decide +kernel
theorem dX8_addSegment_21 : decode cX8_addSegment 21 = Except.ok (Instr.bipush (-2), 2) := by decide +kernel
theorem dX8_addSegment_23 : decode cX8_addSegment 23 = Except.ok (Instr.ireturn, 1) := by decide +kernel
theorem dX8_addSegment_24 : decode cX8_addSegment 24 = Except.ok (Instr.aload_n 0, 1) := by decide +kernel
theorem dX8_addSegment_25 : decode cX8_addSegment 25 = Except.ok (Instr.getfield 19, 3) := by decide +kernel
theorem dX8_addSegment_28 : decode cX8_addSegment 28 = Except.ok (Instr.iload_n 1, 1) := by decide +kernel
theorem dX8_addSegment_29 : decode cX8_addSegment 29 = Except.ok (Instr.iload_n 2, 1) := by decide +kernel
theorem dX8_addSegment_30 : decode cX8_addSegment 30 = Except.ok (Instr.iload_n 3, 1) := by decide +kernel
theorem dX8_addSegment_31 : decode cX8_addSegment 31 = Except.ok (Instr.iload 4, 2) := by decide +kernel
theorem dX8_addSegment_33 : decode cX8_addSegment 33 = Except.ok (Instr.invokevirtual 109, 3) := by decide +kernel
theorem dX8_addSegment_36 : decode cX8_addSegment 36 = Except.ok (Instr.ireturn, 1) := by decide +kernel
theorem dX8_clearScript_0 : decode cX8_clearScript 0 = Except.ok (Instr.aload_n 0, 1) := by decide +kernel
theorem dX8_clearScript_1 : decode cX8_clearScript 1 = Except.ok (Instr.getfield 19, 3) := by decide +kernel
theorem dX8_clearScript_4 : decode cX8_clearScript 4 = Except.ok (Instr.invokevirtual 113, 3) := by decide +kernel
theorem dX8_clearScript_7 : decode cX8_clearScript 7 = Except.ok (Instr.ireturn, 1) := by decide +kernel
theorem dX8_scriptTicks_0 : decode cX8_scriptTicks 0 = Except.ok (Instr.aload_n 0, 1) := by decide +kernel
theorem dX8_scriptTicks_1 : decode cX8_scriptTicks 1 = Except.ok (Instr.getfield 19, 3) := by decide +kernel
theorem dX8_scriptTicks_4 : decode cX8_scriptTicks 4 = Except.ok (Instr.invokevirtual 117, 3) := by decide +kernel
theorem dX8_scriptTicks_7 : decode cX8_scriptTicks 7 = Except.ok (Instr.ireturn, 1) := by decide +kernel
theorem dX8_turnTruth_0 : decode cX8_turnTruth 0 = Except.ok (Instr.iload_n 1, 1) := by decide +kernel
theorem dX8_turnTruth_1 : decode cX8_turnTruth 1 = Except.ok (Instr.iload_n 2, 1) := by decide +kernel
theorem dX8_turnTruth_2 : decode cX8_turnTruth 2 = Except.ok (Instr.iload_n 3, 1) := by decide +kernel
theorem dX8_turnTruth_3 : decode cX8_turnTruth 3 = Except.ok (Instr.invokestatic 106, 3) := by decide +kernel
theorem dX8_turnTruth_6 : decode cX8_turnTruth 6 = Except.ok (Instr.ifCond .ne 6, 3) := by decide +kernel
theorem dX8_turnTruth_9 : decode cX8_turnTruth 9 = Except.ok (Instr.bipush (-2), 2) := by decide +kernel
theorem dX8_turnTruth_11 : decode cX8_turnTruth 11 = Except.ok (Instr.ireturn, 1) := by decide +kernel
theorem dX8_turnTruth_12 : decode cX8_turnTruth 12 = Except.ok (Instr.aload_n 0, 1) := by decide +kernel
theorem dX8_turnTruth_13 : decode cX8_turnTruth 13 = Except.ok (Instr.getfield 10, 3) := by decide +kernel
theorem dX8_turnTruth_16 : decode cX8_turnTruth 16 = Except.ok (Instr.iload_n 1, 1) := by decide +kernel
theorem dX8_turnTruth_17 : decode cX8_turnTruth 17 = Except.ok (Instr.i2l, 1) := by decide +kernel
theorem dX8_turnTruth_18 : decode cX8_turnTruth 18 = Except.ok (Instr.iload_n 2, 1) := by decide +kernel
theorem dX8_turnTruth_19 : decode cX8_turnTruth 19 = Except.ok (Instr.i2l, 1) := by decide +kernel
theorem dX8_turnTruth_20 : decode cX8_turnTruth 20 = Except.ok (Instr.iload_n 3, 1) := by decide +kernel
theorem dX8_turnTruth_21 : decode cX8_turnTruth 21 = Except.ok (Instr.i2l, 1) := by decide +kernel
theorem dX8_turnTruth_22 : decode cX8_turnTruth 22 = Except.ok (Instr.invokevirtual 120, 3) := by decide +kernel
theorem dX8_turnTruth_25 : decode cX8_turnTruth 25 = Except.ok (Instr.iconst 0, 1) := by decide +kernel
theorem dX8_turnTruth_26 : decode cX8_turnTruth 26 = Except.ok (Instr.ireturn, 1) := by decide +kernel
theorem dX8_run_0 : decode cX8_run 0 = Except.ok (Instr.iload_n 1, 1) := by decide +kernel
theorem dX8_run_1 : decode cX8_run 1 = Except.ok (Instr.iconst 1, 1) := by decide +kernel
theorem dX8_run_2 : decode cX8_run 2 = Except.ok (Instr.sipush 200, 3) := by decide +kernel
theorem dX8_run_5 : decode cX8_run 5 = Except.ok (Instr.invokestatic 81, 3) := by decide +kernel
theorem dX8_run_8 : decode cX8_run 8 = Except.ok (Instr.ifCond .eq 14, 3) := by decide +kernel
theorem dX8_run_11 : decode cX8_run 11 = Except.ok (Instr.aload_n 0, 1) := by decide +kernel
theorem dX8_run_12 : decode cX8_run 12 = Except.ok (Instr.getfield 124, 3) := by decide +kernel
theorem dX8_run_15 : decode cX8_run 15 = Except.ok (Instr.iload_n 1, 1) := by decide +kernel
theorem dX8_run_16 : decode cX8_run 16 = Except.ok (Instr.iadd, 1) := by decide +kernel
theorem dX8_run_17 : decode cX8_run 17 = Except.ok (Instr.ldc 128, 2) := by decide +kernel
theorem dX8_run_19 : decode cX8_run 19 = Except.ok (Instr.if_icmp .le 6, 3) := by decide +kernel
theorem dX8_run_22 : decode cX8_run 22 = Except.ok (Instr.bipush (-2), 2) := by decide +kernel
theorem dX8_run_24 : decode cX8_run 24 = Except.ok (Instr.ireturn, 1) := by decide +kernel
theorem dX8_run_25 : decode cX8_run 25 = Except.ok (Instr.iconst 0, 1) := by decide +kernel
theorem dX8_run_26 : decode cX8_run 26 = Except.ok (Instr.istore_n 2, 1) := by decide +kernel
theorem dX8_run_27 : decode cX8_run 27 = Except.ok (Instr.iload_n 2, 1) := by decide +kernel
theorem dX8_run_28 : decode cX8_run 28 = Except.ok (Instr.iload_n 1, 1) := by decide +kernel
theorem dX8_run_29 : decode cX8_run 29 = Except.ok (Instr.if_icmp .ge 13, 3) := by decide +kernel
theorem dX8_run_32 : decode cX8_run 32 = Except.ok (Instr.aload_n 0, 1) := by decide +kernel
theorem dX8_run_33 : decode cX8_run 33 = Except.ok (Instr.invokevirtual 129, 3) := by decide +kernel
theorem dX8_run_36 : decode cX8_run 36 = Except.ok (Instr.iinc 2 1, 3) := by decide +kernel
theorem dX8_run_39 : decode cX8_run 39 = Except.ok (Instr.goto (-12), 3) := by decide +kernel
theorem dX8_run_42 : decode cX8_run 42 = Except.ok (Instr.aload_n 0, 1) := by decide +kernel
theorem dX8_run_43 : decode cX8_run 43 = Except.ok (Instr.getfield 124, 3) := by decide +kernel
theorem dX8_run_46 : decode cX8_run 46 = Except.ok (Instr.ireturn, 1) := by decide +kernel
theorem dX8_time_0 : decode cX8_time 0 = Except.ok (Instr.aload_n 0, 1) := by decide +kernel
theorem dX8_time_1 : decode cX8_time 1 = Except.ok (Instr.getfield 124, 3) := by decide +kernel
theorem dX8_time_4 : decode cX8_time 4 = Except.ok (Instr.ireturn, 1) := by decide +kernel
theorem dX8_gyro_0 : decode cX8_gyro 0 = Except.ok (Instr.aload_n 0, 1) := by decide +kernel
theorem dX8_gyro_1 : decode cX8_gyro 1 = Except.ok (Instr.getfield 26, 3) := by decide +kernel
theorem dX8_gyro_4 : decode cX8_gyro 4 = Except.ok (Instr.getfield 132, 3) := by decide +kernel
theorem dX8_gyro_7 : decode cX8_gyro 7 = Except.ok (Instr.iload_n 1, 1) := by decide +kernel
theorem dX8_gyro_8 : decode cX8_gyro 8 = Except.ok (Instr.invokestatic 135, 3) := by decide +kernel
theorem dX8_gyro_11 : decode cX8_gyro 11 = Except.ok (Instr.lreturn, 1) := by decide +kernel
theorem dX8_accelerometer_0 : decode cX8_accelerometer 0 = Except.ok (Instr.aload_n 0, 1) := by decide +kernel
theorem dX8_accelerometer_1 : decode cX8_accelerometer 1 = Except.ok (Instr.getfield 26, 3) := by decide +kernel
theorem dX8_accelerometer_4 : decode cX8_accelerometer 4 = Except.ok (Instr.getfield 139, 3) := by decide +kernel
theorem dX8_accelerometer_7 : decode cX8_accelerometer 7 = Except.ok (Instr.iload_n 1, 1) := by decide +kernel
theorem dX8_accelerometer_8 : decode cX8_accelerometer 8 = Except.ok (Instr.invokestatic 135, 3) := by decide +kernel
theorem dX8_accelerometer_11 : decode cX8_accelerometer 11 = Except.ok (Instr.lreturn, 1) := by decide +kernel
theorem dX8_setMethod_0 : decode cX8_setMethod 0 = Except.ok (Instr.iload_n 1, 1) := by decide +kernel
theorem dX8_setMethod_1 : decode cX8_setMethod 1 = Except.ok (Instr.iconst 0, 1) := by decide +kernel
theorem dX8_setMethod_2 : decode cX8_setMethod 2 = Except.ok (Instr.iconst 2, 1) := by decide +kernel
theorem dX8_setMethod_3 : decode cX8_setMethod 3 = Except.ok (Instr.invokestatic 81, 3) := by decide +kernel
theorem dX8_setMethod_6 : decode cX8_setMethod 6 = Except.ok (Instr.ifCond .ne 6, 3) := by decide +kernel
theorem dX8_setMethod_9 : decode cX8_setMethod 9 = Except.ok (Instr.bipush (-2), 2) := by decide +kernel
theorem dX8_setMethod_11 : decode cX8_setMethod 11 = Except.ok (Instr.ireturn, 1) := by decide +kernel
theorem dX8_setMethod_12 : decode cX8_setMethod 12 = Except.ok (Instr.aload_n 0, 1) := by decide +kernel
theorem dX8_setMethod_13 : decode cX8_setMethod 13 = Except.ok (Instr.getfield 40, 3) := by decide +kernel
theorem dX8_setMethod_16 : decode cX8_setMethod 16 = Except.ok (Instr.iload_n 1, 1) := by decide +kernel
theorem dX8_setMethod_17 : decode cX8_setMethod 17 = Except.ok (Instr.invokevirtual 142, 3) := by decide +kernel
theorem dX8_setMethod_20 : decode cX8_setMethod 20 = Except.ok (Instr.ireturn, 1) := by decide +kernel
theorem dX8_setLevelling_0 : decode cX8_setLevelling 0 = Except.ok (Instr.iload_n 1, 1) := by decide +kernel
theorem dX8_setLevelling_1 : decode cX8_setLevelling 1 = Except.ok (Instr.iconst 0, 1) := by decide +kernel
theorem dX8_setLevelling_2 : decode cX8_setLevelling 2 = Except.ok (Instr.bipush 20, 2) := by decide +kernel
theorem dX8_setLevelling_4 : decode cX8_setLevelling 4 = Except.ok (Instr.invokestatic 81, 3) := by decide +kernel
theorem dX8_setLevelling_7 : decode cX8_setLevelling 7 = Except.ok (Instr.ifCond .ne 6, 3) := by decide +kernel
theorem dX8_setLevelling_10 : decode cX8_setLevelling 10 = Except.ok (Instr.bipush (-2), 2) := by decide +kernel
theorem dX8_setLevelling_12 : decode cX8_setLevelling 12 = Except.ok (Instr.ireturn, 1) := by decide +kernel
theorem dX8_setLevelling_13 : decode cX8_setLevelling 13 = Except.ok (Instr.aload_n 0, 1) := by decide +kernel
theorem dX8_setLevelling_14 : decode cX8_setLevelling 14 = Except.ok (Instr.getfield 40, 3) := by decide +kernel
theorem dX8_setLevelling_17 : decode cX8_setLevelling 17 = Except.ok (Instr.iload_n 1, 1) := by decide +kernel
theorem dX8_setLevelling_18 : decode cX8_setLevelling 18 = Except.ok (Instr.invokevirtual 145, 3) := by decide +kernel
theorem dX8_setLevelling_21 : decode cX8_setLevelling 21 = Except.ok (Instr.ireturn, 1) := by decide +kernel
theorem dX8_setHeading_0 : decode cX8_setHeading 0 = Except.ok (Instr.iload_n 1, 1) := by decide +kernel
theorem dX8_setHeading_1 : decode cX8_setHeading 1 = Except.ok (Instr.iconst 0, 1) := by decide +kernel
theorem dX8_setHeading_2 : decode cX8_setHeading 2 = Except.ok (Instr.bipush 20, 2) := by decide +kernel
theorem dX8_setHeading_4 : decode cX8_setHeading 4 = Except.ok (Instr.invokestatic 81, 3) := by decide +kernel
theorem dX8_setHeading_7 : decode cX8_setHeading 7 = Except.ok (Instr.ifCond .ne 6, 3) := by decide +kernel
theorem dX8_setHeading_10 : decode cX8_setHeading 10 = Except.ok (Instr.bipush (-2), 2) := by decide +kernel
theorem dX8_setHeading_12 : decode cX8_setHeading 12 = Except.ok (Instr.ireturn, 1) := by decide +kernel
theorem dX8_setHeading_13 : decode cX8_setHeading 13 = Except.ok (Instr.aload_n 0, 1) := by decide +kernel
theorem dX8_setHeading_14 : decode cX8_setHeading 14 = Except.ok (Instr.getfield 40, 3) := by decide +kernel
theorem dX8_setHeading_17 : decode cX8_setHeading 17 = Except.ok (Instr.iload_n 1, 1) := by decide +kernel
theorem dX8_setHeading_18 : decode cX8_setHeading 18 = Except.ok (Instr.invokevirtual 148, 3) := by decide +kernel
theorem dX8_setHeading_21 : decode cX8_setHeading 21 = Except.ok (Instr.ireturn, 1) := by decide +kernel
theorem dX8_startCalibration_0 : decode cX8_startCalibration 0 = Except.ok (Instr.iload_n 1, 1) := by decide +kernel
theorem dX8_startCalibration_1 : decode cX8_startCalibration 1 = Except.ok (Instr.iconst 1, 1) := by decide +kernel
theorem dX8_startCalibration_2 : decode cX8_startCalibration 2 = Except.ok (Instr.sipush 1000, 3) := by decide +kernel
theorem dX8_startCalibration_5 : decode cX8_startCalibration 5 = Except.ok (Instr.invokestatic 81, 3) := by decide +kernel
theorem dX8_startCalibration_8 : decode cX8_startCalibration 8 = Except.ok (Instr.ifCond .ne 6, 3) := by decide +kernel
theorem dX8_startCalibration_11 : decode cX8_startCalibration 11 = Except.ok (Instr.bipush (-2), 2) := by decide +kernel
theorem dX8_startCalibration_13 : decode cX8_startCalibration 13 = Except.ok (Instr.ireturn, 1) := by decide +kernel
theorem dX8_startCalibration_14 : decode cX8_startCalibration 14 = Except.ok (Instr.aload_n 0, 1) := by decide +kernel
theorem dX8_startCalibration_15 : decode cX8_startCalibration 15 = Except.ok (Instr.getfield 40, 3) := by decide +kernel
theorem dX8_startCalibration_18 : decode cX8_startCalibration 18 = Except.ok (Instr.getfield 151, 3) := by decide +kernel
theorem dX8_startCalibration_21 : decode cX8_startCalibration 21 = Except.ok (Instr.invokevirtual 155, 3) := by decide +kernel
theorem dX8_startCalibration_24 : decode cX8_startCalibration 24 = Except.ok (Instr.ifCond .eq 6, 3) := by decide +kernel
theorem dX8_startCalibration_27 : decode cX8_startCalibration 27 = Except.ok (Instr.bipush (-4), 2) := by decide +kernel
theorem dX8_startCalibration_29 : decode cX8_startCalibration 29 = Except.ok (Instr.ireturn, 1) := by decide +kernel
theorem dX8_startCalibration_30 : decode cX8_startCalibration 30 = Except.ok (Instr.aload_n 0, 1) := by decide +kernel
theorem dX8_startCalibration_31 : decode cX8_startCalibration 31 = Except.ok (Instr.getfield 40, 3) := by decide +kernel
theorem dX8_startCalibration_34 : decode cX8_startCalibration 34 = Except.ok (Instr.getfield 151, 3) := by decide +kernel
theorem dX8_startCalibration_37 : decode cX8_startCalibration 37 = Except.ok (Instr.iload_n 1, 1) := by decide +kernel
theorem dX8_startCalibration_38 : decode cX8_startCalibration 38 = Except.ok (Instr.invokevirtual 161, 3) := by decide +kernel
theorem dX8_startCalibration_41 : decode cX8_startCalibration 41 = Except.ok (Instr.iconst 0, 1) := by decide +kernel
theorem dX8_startCalibration_42 : decode cX8_startCalibration 42 = Except.ok (Instr.ireturn, 1) := by decide +kernel
theorem dX8_calibrationLeft_0 : decode cX8_calibrationLeft 0 = Except.ok (Instr.aload_n 0, 1) := by decide +kernel
theorem dX8_calibrationLeft_1 : decode cX8_calibrationLeft 1 = Except.ok (Instr.getfield 40, 3) := by decide +kernel
theorem dX8_calibrationLeft_4 : decode cX8_calibrationLeft 4 = Except.ok (Instr.getfield 151, 3) := by decide +kernel
theorem dX8_calibrationLeft_7 : decode cX8_calibrationLeft 7 = Except.ok (Instr.getfield 165, 3) := by decide +kernel
theorem dX8_calibrationLeft_10 : decode cX8_calibrationLeft 10 = Except.ok (Instr.ireturn, 1) := by decide +kernel
theorem dX8_biasEstimate_0 : decode cX8_biasEstimate 0 = Except.ok (Instr.aload_n 0, 1) := by decide +kernel
theorem dX8_biasEstimate_1 : decode cX8_biasEstimate 1 = Except.ok (Instr.getfield 40, 3) := by decide +kernel
theorem dX8_biasEstimate_4 : decode cX8_biasEstimate 4 = Except.ok (Instr.getfield 167, 3) := by decide +kernel
theorem dX8_biasEstimate_7 : decode cX8_biasEstimate 7 = Except.ok (Instr.iload_n 1, 1) := by decide +kernel
theorem dX8_biasEstimate_8 : decode cX8_biasEstimate 8 = Except.ok (Instr.invokestatic 135, 3) := by decide +kernel
theorem dX8_biasEstimate_11 : decode cX8_biasEstimate 11 = Except.ok (Instr.lreturn, 1) := by decide +kernel
theorem dX8_setCompensation_0 : decode cX8_setCompensation 0 = Except.ok (Instr.iload_n 1, 1) := by decide +kernel
theorem dX8_setCompensation_1 : decode cX8_setCompensation 1 = Except.ok (Instr.invokestatic 67, 3) := by decide +kernel
theorem dX8_setCompensation_4 : decode cX8_setCompensation 4 = Except.ok (Instr.ifCond .eq 21, 3) := by decide +kernel
theorem dX8_setCompensation_7 : decode cX8_setCompensation 7 = Except.ok (Instr.iload_n 2, 1) := by decide +kernel
theorem dX8_setCompensation_8 : decode cX8_setCompensation 8 = Except.ok (Instr.invokestatic 170, 3) := by decide +kernel
theorem dX8_setCompensation_11 : decode cX8_setCompensation 11 = Except.ok (Instr.ifCond .eq 14, 3) := by decide +kernel
theorem dX8_setCompensation_14 : decode cX8_setCompensation 14 = Except.ok (Instr.iload_n 3, 1) := by decide +kernel
theorem dX8_setCompensation_15 : decode cX8_setCompensation 15 = Except.ok (Instr.i2l, 1) := by decide +kernel
theorem dX8_setCompensation_16 : decode cX8_setCompensation 16 = Except.ok (Instr.ldc2_w 173, 3) := by decide +kernel
theorem dX8_setCompensation_19 : decode cX8_setCompensation 19 = Except.ok (Instr.invokestatic 75, 3) := by decide +kernel
theorem dX8_setCompensation_22 : decode cX8_setCompensation 22 = Except.ok (Instr.ifCond .ne 6, 3) := by decide +kernel
theorem dX8_setCompensation_25 : decode cX8_setCompensation 25 = Except.ok (Instr.bipush (-2), 2) := by decide +kernel
theorem dX8_setCompensation_27 : decode cX8_setCompensation 27 = Except.ok (Instr.ireturn, 1) := by decide +kernel
theorem dX8_setCompensation_28 : decode cX8_setCompensation 28 = Except.ok (Instr.aload_n 0, 1) := by decide +kernel
theorem dX8_setCompensation_29 : decode cX8_setCompensation 29 = Except.ok (Instr.getfield 33, 3) := by decide +kernel
theorem dX8_setCompensation_32 : decode cX8_setCompensation 32 = Except.ok (Instr.iload_n 1, 1) := by decide +kernel
theorem dX8_setCompensation_33 : decode cX8_setCompensation 33 = Except.ok (Instr.iload_n 2, 1) := by decide +kernel
theorem dX8_setCompensation_34 : decode cX8_setCompensation 34 = Except.ok (Instr.iload_n 3, 1) := by decide +kernel
theorem dX8_setCompensation_35 : decode cX8_setCompensation 35 = Except.ok (Instr.invokevirtual 175, 3) := by decide +kernel
theorem dX8_setCompensation_38 : decode cX8_setCompensation 38 = Except.ok (Instr.aload_n 0, 1) := by decide +kernel
theorem dX8_setCompensation_39 : decode cX8_setCompensation 39 = Except.ok (Instr.getfield 33, 3) := by decide +kernel
theorem dX8_setCompensation_42 : decode cX8_setCompensation 42 = Except.ok (Instr.getfield 179, 3) := by decide +kernel
theorem dX8_setCompensation_45 : decode cX8_setCompensation 45 = Except.ok (Instr.ireturn, 1) := by decide +kernel
theorem dX8_learnCompensation_0 : decode cX8_learnCompensation 0 = Except.ok (Instr.aload_n 0, 1) := by decide +kernel
theorem dX8_learnCompensation_1 : decode cX8_learnCompensation 1 = Except.ok (Instr.getfield 40, 3) := by decide +kernel
theorem dX8_learnCompensation_4 : decode cX8_learnCompensation 4 = Except.ok (Instr.getfield 151, 3) := by decide +kernel
theorem dX8_learnCompensation_7 : decode cX8_learnCompensation 7 = Except.ok (Instr.invokevirtual 155, 3) := by decide +kernel
theorem dX8_learnCompensation_10 : decode cX8_learnCompensation 10 = Except.ok (Instr.ifCond .eq 6, 3) := by decide +kernel
theorem dX8_learnCompensation_13 : decode cX8_learnCompensation 13 = Except.ok (Instr.bipush (-4), 2) := by decide +kernel
theorem dX8_learnCompensation_15 : decode cX8_learnCompensation 15 = Except.ok (Instr.ireturn, 1) := by decide +kernel
theorem dX8_learnCompensation_16 : decode cX8_learnCompensation 16 = Except.ok (Instr.aload_n 0, 1) := by decide +kernel
theorem dX8_learnCompensation_17 : decode cX8_learnCompensation 17 = Except.ok (Instr.getfield 33, 3) := by decide +kernel
theorem dX8_learnCompensation_20 : decode cX8_learnCompensation 20 = Except.ok (Instr.aload_n 0, 1) := by decide +kernel
theorem dX8_learnCompensation_21 : decode cX8_learnCompensation 21 = Except.ok (Instr.getfield 40, 3) := by decide +kernel
theorem dX8_learnCompensation_24 : decode cX8_learnCompensation 24 = Except.ok (Instr.getfield 167, 3) := by decide +kernel
theorem dX8_learnCompensation_27 : decode cX8_learnCompensation 27 = Except.ok (Instr.aload_n 0, 1) := by decide +kernel
theorem dX8_learnCompensation_28 : decode cX8_learnCompensation 28 = Except.ok (Instr.getfield 26, 3) := by decide +kernel
theorem dX8_learnCompensation_31 : decode cX8_learnCompensation 31 = Except.ok (Instr.invokevirtual 182, 3) := by decide +kernel
theorem dX8_learnCompensation_34 : decode cX8_learnCompensation 34 = Except.ok (Instr.invokevirtual 185, 3) := by decide +kernel
theorem dX8_learnCompensation_37 : decode cX8_learnCompensation 37 = Except.ok (Instr.aload_n 0, 1) := by decide +kernel
theorem dX8_learnCompensation_38 : decode cX8_learnCompensation 38 = Except.ok (Instr.getfield 33, 3) := by decide +kernel
theorem dX8_learnCompensation_41 : decode cX8_learnCompensation 41 = Except.ok (Instr.getfield 179, 3) := by decide +kernel
theorem dX8_learnCompensation_44 : decode cX8_learnCompensation 44 = Except.ok (Instr.ireturn, 1) := by decide +kernel
theorem dX8_compensation_0 : decode cX8_compensation 0 = Except.ok (Instr.aload_n 0, 1) := by decide +kernel
theorem dX8_compensation_1 : decode cX8_compensation 1 = Except.ok (Instr.getfield 33, 3) := by decide +kernel
theorem dX8_compensation_4 : decode cX8_compensation 4 = Except.ok (Instr.iload_n 1, 1) := by decide +kernel
theorem dX8_compensation_5 : decode cX8_compensation 5 = Except.ok (Instr.iload_n 2, 1) := by decide +kernel
theorem dX8_compensation_6 : decode cX8_compensation 6 = Except.ok (Instr.invokevirtual 189, 3) := by decide +kernel
theorem dX8_compensation_9 : decode cX8_compensation 9 = Except.ok (Instr.ireturn, 1) := by decide +kernel
theorem dX8_forgetBin_0 : decode cX8_forgetBin 0 = Except.ok (Instr.aload_n 0, 1) := by decide +kernel
theorem dX8_forgetBin_1 : decode cX8_forgetBin 1 = Except.ok (Instr.getfield 33, 3) := by decide +kernel
theorem dX8_forgetBin_4 : decode cX8_forgetBin 4 = Except.ok (Instr.iload_n 1, 1) := by decide +kernel
theorem dX8_forgetBin_5 : decode cX8_forgetBin 5 = Except.ok (Instr.invokevirtual 193, 3) := by decide +kernel
theorem dX8_forgetBin_8 : decode cX8_forgetBin 8 = Except.ok (Instr.ireturn, 1) := by decide +kernel
theorem dX8_turnEstimate_0 : decode cX8_turnEstimate 0 = Except.ok (Instr.iload_n 1, 1) := by decide +kernel
theorem dX8_turnEstimate_1 : decode cX8_turnEstimate 1 = Except.ok (Instr.iload_n 2, 1) := by decide +kernel
theorem dX8_turnEstimate_2 : decode cX8_turnEstimate 2 = Except.ok (Instr.iload_n 3, 1) := by decide +kernel
theorem dX8_turnEstimate_3 : decode cX8_turnEstimate 3 = Except.ok (Instr.invokestatic 106, 3) := by decide +kernel
theorem dX8_turnEstimate_6 : decode cX8_turnEstimate 6 = Except.ok (Instr.ifCond .ne 6, 3) := by decide +kernel
theorem dX8_turnEstimate_9 : decode cX8_turnEstimate 9 = Except.ok (Instr.bipush (-2), 2) := by decide +kernel
theorem dX8_turnEstimate_11 : decode cX8_turnEstimate 11 = Except.ok (Instr.ireturn, 1) := by decide +kernel
theorem dX8_turnEstimate_12 : decode cX8_turnEstimate 12 = Except.ok (Instr.aload_n 0, 1) := by decide +kernel
theorem dX8_turnEstimate_13 : decode cX8_turnEstimate 13 = Except.ok (Instr.getfield 40, 3) := by decide +kernel
theorem dX8_turnEstimate_16 : decode cX8_turnEstimate 16 = Except.ok (Instr.getfield 196, 3) := by decide +kernel
theorem dX8_turnEstimate_19 : decode cX8_turnEstimate 19 = Except.ok (Instr.iload_n 1, 1) := by decide +kernel
theorem dX8_turnEstimate_20 : decode cX8_turnEstimate 20 = Except.ok (Instr.i2l, 1) := by decide +kernel
theorem dX8_turnEstimate_21 : decode cX8_turnEstimate 21 = Except.ok (Instr.iload_n 2, 1) := by decide +kernel
theorem dX8_turnEstimate_22 : decode cX8_turnEstimate 22 = Except.ok (Instr.i2l, 1) := by decide +kernel
theorem dX8_turnEstimate_23 : decode cX8_turnEstimate 23 = Except.ok (Instr.iload_n 3, 1) := by decide +kernel
theorem dX8_turnEstimate_24 : decode cX8_turnEstimate 24 = Except.ok (Instr.i2l, 1) := by decide +kernel
theorem dX8_turnEstimate_25 : decode cX8_turnEstimate 25 = Except.ok (Instr.invokevirtual 120, 3) := by decide +kernel
theorem dX8_turnEstimate_28 : decode cX8_turnEstimate 28 = Except.ok (Instr.iconst 0, 1) := by decide +kernel
theorem dX8_turnEstimate_29 : decode cX8_turnEstimate 29 = Except.ok (Instr.ireturn, 1) := by decide +kernel
theorem dX8_estimate_0 : decode cX8_estimate 0 = Except.ok (Instr.aload_n 0, 1) := by decide +kernel
theorem dX8_estimate_1 : decode cX8_estimate 1 = Except.ok (Instr.getfield 40, 3) := by decide +kernel
theorem dX8_estimate_4 : decode cX8_estimate 4 = Except.ok (Instr.getfield 196, 3) := by decide +kernel
theorem dX8_estimate_7 : decode cX8_estimate 7 = Except.ok (Instr.getfield 199, 3) := by decide +kernel
theorem dX8_estimate_10 : decode cX8_estimate 10 = Except.ok (Instr.iload_n 1, 1) := by decide +kernel
theorem dX8_estimate_11 : decode cX8_estimate 11 = Except.ok (Instr.invokestatic 135, 3) := by decide +kernel
theorem dX8_estimate_14 : decode cX8_estimate 14 = Except.ok (Instr.lreturn, 1) := by decide +kernel
theorem dX8_truth_0 : decode cX8_truth 0 = Except.ok (Instr.aload_n 0, 1) := by decide +kernel
theorem dX8_truth_1 : decode cX8_truth 1 = Except.ok (Instr.getfield 10, 3) := by decide +kernel
theorem dX8_truth_4 : decode cX8_truth 4 = Except.ok (Instr.getfield 199, 3) := by decide +kernel
theorem dX8_truth_7 : decode cX8_truth 7 = Except.ok (Instr.iload_n 1, 1) := by decide +kernel
theorem dX8_truth_8 : decode cX8_truth 8 = Except.ok (Instr.invokestatic 135, 3) := by decide +kernel
theorem dX8_truth_11 : decode cX8_truth 11 = Except.ok (Instr.lreturn, 1) := by decide +kernel
theorem dX8_errorAngle_0 : decode cX8_errorAngle 0 = Except.ok (Instr.aload_n 0, 1) := by decide +kernel
theorem dX8_errorAngle_1 : decode cX8_errorAngle 1 = Except.ok (Instr.getfield 40, 3) := by decide +kernel
theorem dX8_errorAngle_4 : decode cX8_errorAngle 4 = Except.ok (Instr.getfield 196, 3) := by decide +kernel
theorem dX8_errorAngle_7 : decode cX8_errorAngle 7 = Except.ok (Instr.aload_n 0, 1) := by decide +kernel
theorem dX8_errorAngle_8 : decode cX8_errorAngle 8 = Except.ok (Instr.getfield 10, 3) := by decide +kernel
theorem dX8_errorAngle_11 : decode cX8_errorAngle 11 = Except.ok (Instr.getfield 199, 3) := by decide +kernel
theorem dX8_errorAngle_14 : decode cX8_errorAngle 14 = Except.ok (Instr.invokevirtual 202, 3) := by decide +kernel
theorem dX8_errorAngle_17 : decode cX8_errorAngle 17 = Except.ok (Instr.lreturn, 1) := by decide +kernel
theorem dX8_greatestError_0 : decode cX8_greatestError 0 = Except.ok (Instr.aload_n 0, 1) := by decide +kernel
theorem dX8_greatestError_1 : decode cX8_greatestError 1 = Except.ok (Instr.getfield 206, 3) := by decide +kernel
theorem dX8_greatestError_4 : decode cX8_greatestError 4 = Except.ok (Instr.lreturn, 1) := by decide +kernel
theorem dX8_tiltError_0 : decode cX8_tiltError 0 = Except.ok (Instr.aload_n 0, 1) := by decide +kernel
theorem dX8_tiltError_1 : decode cX8_tiltError 1 = Except.ok (Instr.getfield 10, 3) := by decide +kernel
theorem dX8_tiltError_4 : decode cX8_tiltError 4 = Except.ok (Instr.getstatic 210, 3) := by decide +kernel
theorem dX8_tiltError_7 : decode cX8_tiltError 7 = Except.ok (Instr.aload_n 0, 1) := by decide +kernel
theorem dX8_tiltError_8 : decode cX8_tiltError 8 = Except.ok (Instr.getfield 58, 3) := by decide +kernel
theorem dX8_tiltError_11 : decode cX8_tiltError 11 = Except.ok (Instr.invokevirtual 213, 3) := by decide +kernel
theorem dX8_tiltError_14 : decode cX8_tiltError 14 = Except.ok (Instr.aload_n 0, 1) := by decide +kernel
theorem dX8_tiltError_15 : decode cX8_tiltError 15 = Except.ok (Instr.getfield 40, 3) := by decide +kernel
theorem dX8_tiltError_18 : decode cX8_tiltError 18 = Except.ok (Instr.getfield 196, 3) := by decide +kernel
theorem dX8_tiltError_21 : decode cX8_tiltError 21 = Except.ok (Instr.getstatic 210, 3) := by decide +kernel
theorem dX8_tiltError_24 : decode cX8_tiltError 24 = Except.ok (Instr.aload_n 0, 1) := by decide +kernel
theorem dX8_tiltError_25 : decode cX8_tiltError 25 = Except.ok (Instr.getfield 61, 3) := by decide +kernel
theorem dX8_tiltError_28 : decode cX8_tiltError 28 = Except.ok (Instr.invokevirtual 213, 3) := by decide +kernel
theorem dX8_tiltError_31 : decode cX8_tiltError 31 = Except.ok (Instr.aload_n 0, 1) := by decide +kernel
theorem dX8_tiltError_32 : decode cX8_tiltError 32 = Except.ok (Instr.getfield 58, 3) := by decide +kernel
theorem dX8_tiltError_35 : decode cX8_tiltError 35 = Except.ok (Instr.aload_n 0, 1) := by decide +kernel
theorem dX8_tiltError_36 : decode cX8_tiltError 36 = Except.ok (Instr.getfield 61, 3) := by decide +kernel
theorem dX8_tiltError_39 : decode cX8_tiltError 39 = Except.ok (Instr.aload_n 0, 1) := by decide +kernel
theorem dX8_tiltError_40 : decode cX8_tiltError 40 = Except.ok (Instr.getfield 64, 3) := by decide +kernel
theorem dX8_tiltError_43 : decode cX8_tiltError 43 = Except.ok (Instr.invokestatic 217, 3) := by decide +kernel
theorem dX8_tiltError_46 : decode cX8_tiltError 46 = Except.ok (Instr.aload_n 0, 1) := by decide +kernel
theorem dX8_tiltError_47 : decode cX8_tiltError 47 = Except.ok (Instr.getfield 64, 3) := by decide +kernel
theorem dX8_tiltError_50 : decode cX8_tiltError 50 = Except.ok (Instr.iconst 0, 1) := by decide +kernel
theorem dX8_tiltError_51 : decode cX8_tiltError 51 = Except.ok (Instr.laload, 1) := by decide +kernel
theorem dX8_tiltError_52 : decode cX8_tiltError 52 = Except.ok (Instr.bipush 28, 2) := by decide +kernel
theorem dX8_tiltError_54 : decode cX8_tiltError 54 = Except.ok (Instr.lshr, 1) := by decide +kernel
theorem dX8_tiltError_55 : decode cX8_tiltError 55 = Except.ok (Instr.aload_n 0, 1) := by decide +kernel
theorem dX8_tiltError_56 : decode cX8_tiltError 56 = Except.ok (Instr.getfield 64, 3) := by decide +kernel
theorem dX8_tiltError_59 : decode cX8_tiltError 59 = Except.ok (Instr.iconst 1, 1) := by decide +kernel
theorem dX8_tiltError_60 : decode cX8_tiltError 60 = Except.ok (Instr.laload, 1) := by decide +kernel
theorem dX8_tiltError_61 : decode cX8_tiltError 61 = Except.ok (Instr.bipush 28, 2) := by decide +kernel
theorem dX8_tiltError_63 : decode cX8_tiltError 63 = Except.ok (Instr.lshr, 1) := by decide +kernel
theorem dX8_tiltError_64 : decode cX8_tiltError 64 = Except.ok (Instr.aload_n 0, 1) := by decide +kernel
theorem dX8_tiltError_65 : decode cX8_tiltError 65 = Except.ok (Instr.getfield 64, 3) := by decide +kernel
theorem dX8_tiltError_68 : decode cX8_tiltError 68 = Except.ok (Instr.iconst 2, 1) := by decide +kernel
theorem dX8_tiltError_69 : decode cX8_tiltError 69 = Except.ok (Instr.laload, 1) := by decide +kernel
theorem dX8_tiltError_70 : decode cX8_tiltError 70 = Except.ok (Instr.bipush 28, 2) := by decide +kernel
theorem dX8_tiltError_72 : decode cX8_tiltError 72 = Except.ok (Instr.lshr, 1) := by decide +kernel
theorem dX8_tiltError_73 : decode cX8_tiltError 73 = Except.ok (Instr.invokestatic 221, 3) := by decide +kernel
theorem dX8_tiltError_76 : decode cX8_tiltError 76 = Except.ok (Instr.lreturn, 1) := by decide +kernel
theorem dX8_toNavigation_0 : decode cX8_toNavigation 0 = Except.ok (Instr.iload_n 1, 1) := by decide +kernel
theorem dX8_toNavigation_1 : decode cX8_toNavigation 1 = Except.ok (Instr.iload_n 2, 1) := by decide +kernel
theorem dX8_toNavigation_2 : decode cX8_toNavigation 2 = Except.ok (Instr.iload_n 3, 1) := by decide +kernel
theorem dX8_toNavigation_3 : decode cX8_toNavigation 3 = Except.ok (Instr.invokestatic 225, 3) := by decide +kernel
theorem dX8_toNavigation_6 : decode cX8_toNavigation 6 = Except.ok (Instr.ifCond .eq 11, 3) := by decide +kernel
theorem dX8_toNavigation_9 : decode cX8_toNavigation 9 = Except.ok (Instr.iload 4, 2) := by decide +kernel
theorem dX8_toNavigation_11 : decode cX8_toNavigation 11 = Except.ok (Instr.invokestatic 67, 3) := by decide +kernel
theorem dX8_toNavigation_14 : decode cX8_toNavigation 14 = Except.ok (Instr.ifCond .ne 5, 3) := by decide +kernel
theorem dX8_toNavigation_17 : decode cX8_toNavigation 17 = Except.ok (Instr.lconst 0, 1) := by decide +kernel
theorem dX8_toNavigation_18 : decode cX8_toNavigation 18 = Except.ok (Instr.lreturn, 1) := by decide +kernel
theorem dX8_toNavigation_19 : decode cX8_toNavigation 19 = Except.ok (Instr.aload_n 0, 1) := by decide +kernel
theorem dX8_toNavigation_20 : decode cX8_toNavigation 20 = Except.ok (Instr.getfield 40, 3) := by decide +kernel
theorem dX8_toNavigation_23 : decode cX8_toNavigation 23 = Except.ok (Instr.getfield 196, 3) := by decide +kernel
theorem dX8_toNavigation_26 : decode cX8_toNavigation 26 = Except.ok (Instr.iload_n 1, 1) := by decide +kernel
theorem dX8_toNavigation_27 : decode cX8_toNavigation 27 = Except.ok (Instr.i2l, 1) := by decide +kernel
theorem dX8_toNavigation_28 : decode cX8_toNavigation 28 = Except.ok (Instr.iload_n 2, 1) := by decide +kernel
theorem dX8_toNavigation_29 : decode cX8_toNavigation 29 = Except.ok (Instr.i2l, 1) := by decide +kernel
theorem dX8_toNavigation_30 : decode cX8_toNavigation 30 = Except.ok (Instr.iload_n 3, 1) := by decide +kernel
theorem dX8_toNavigation_31 : decode cX8_toNavigation 31 = Except.ok (Instr.i2l, 1) := by decide +kernel
theorem dX8_toNavigation_32 : decode cX8_toNavigation 32 = Except.ok (Instr.iload 4, 2) := by decide +kernel
theorem dX8_toNavigation_34 : decode cX8_toNavigation 34 = Except.ok (Instr.invokevirtual 228, 3) := by decide +kernel
theorem dX8_toNavigation_37 : decode cX8_toNavigation 37 = Except.ok (Instr.lreturn, 1) := by decide +kernel
theorem dX8_toBody_0 : decode cX8_toBody 0 = Except.ok (Instr.iload_n 1, 1) := by decide +kernel
theorem dX8_toBody_1 : decode cX8_toBody 1 = Except.ok (Instr.iload_n 2, 1) := by decide +kernel
theorem dX8_toBody_2 : decode cX8_toBody 2 = Except.ok (Instr.iload_n 3, 1) := by decide +kernel
theorem dX8_toBody_3 : decode cX8_toBody 3 = Except.ok (Instr.invokestatic 225, 3) := by decide +kernel
theorem dX8_toBody_6 : decode cX8_toBody 6 = Except.ok (Instr.ifCond .eq 11, 3) := by decide +kernel
theorem dX8_toBody_9 : decode cX8_toBody 9 = Except.ok (Instr.iload 4, 2) := by decide +kernel
theorem dX8_toBody_11 : decode cX8_toBody 11 = Except.ok (Instr.invokestatic 67, 3) := by decide +kernel
theorem dX8_toBody_14 : decode cX8_toBody 14 = Except.ok (Instr.ifCond .ne 5, 3) := by decide +kernel
theorem dX8_toBody_17 : decode cX8_toBody 17 = Except.ok (Instr.lconst 0, 1) := by decide +kernel
theorem dX8_toBody_18 : decode cX8_toBody 18 = Except.ok (Instr.lreturn, 1) := by decide +kernel
theorem dX8_toBody_19 : decode cX8_toBody 19 = Except.ok (Instr.aload_n 0, 1) := by decide +kernel
theorem dX8_toBody_20 : decode cX8_toBody 20 = Except.ok (Instr.getfield 40, 3) := by decide +kernel
theorem dX8_toBody_23 : decode cX8_toBody 23 = Except.ok (Instr.getfield 196, 3) := by decide +kernel
theorem dX8_toBody_26 : decode cX8_toBody 26 = Except.ok (Instr.iload_n 1, 1) := by decide +kernel
theorem dX8_toBody_27 : decode cX8_toBody 27 = Except.ok (Instr.i2l, 1) := by decide +kernel
theorem dX8_toBody_28 : decode cX8_toBody 28 = Except.ok (Instr.iload_n 2, 1) := by decide +kernel
theorem dX8_toBody_29 : decode cX8_toBody 29 = Except.ok (Instr.i2l, 1) := by decide +kernel
theorem dX8_toBody_30 : decode cX8_toBody 30 = Except.ok (Instr.iload_n 3, 1) := by decide +kernel
theorem dX8_toBody_31 : decode cX8_toBody 31 = Except.ok (Instr.i2l, 1) := by decide +kernel
theorem dX8_toBody_32 : decode cX8_toBody 32 = Except.ok (Instr.iload 4, 2) := by decide +kernel
theorem dX8_toBody_34 : decode cX8_toBody 34 = Except.ok (Instr.invokevirtual 232, 3) := by decide +kernel
theorem dX8_toBody_37 : decode cX8_toBody 37 = Except.ok (Instr.lreturn, 1) := by decide +kernel
theorem dX8_visitedBins_0 : decode cX8_visitedBins 0 = Except.ok (Instr.aload_n 0, 1) := by decide +kernel
theorem dX8_visitedBins_1 : decode cX8_visitedBins 1 = Except.ok (Instr.getfield 235, 3) := by decide +kernel
theorem dX8_visitedBins_4 : decode cX8_visitedBins 4 = Except.ok (Instr.invokestatic 238, 3) := by decide +kernel
theorem dX8_visitedBins_7 : decode cX8_visitedBins 7 = Except.ok (Instr.ireturn, 1) := by decide +kernel
theorem dX8_store_0 : decode cX8_store 0 = Except.ok (Instr.iload_n 1, 1) := by decide +kernel
theorem dX8_store_1 : decode cX8_store 1 = Except.ok (Instr.iconst 0, 1) := by decide +kernel
theorem dX8_store_2 : decode cX8_store 2 = Except.ok (Instr.sipush 999, 3) := by decide +kernel
theorem dX8_store_5 : decode cX8_store 5 = Except.ok (Instr.invokestatic 81, 3) := by decide +kernel
theorem dX8_store_8 : decode cX8_store 8 = Except.ok (Instr.ifCond .ne 6, 3) := by decide +kernel
theorem dX8_store_11 : decode cX8_store 11 = Except.ok (Instr.bipush (-2), 2) := by decide +kernel
theorem dX8_store_13 : decode cX8_store 13 = Except.ok (Instr.ireturn, 1) := by decide +kernel
theorem dX8_store_14 : decode cX8_store 14 = Except.ok (Instr.aload_n 0, 1) := by decide +kernel
theorem dX8_store_15 : decode cX8_store 15 = Except.ok (Instr.getfield 47, 3) := by decide +kernel
theorem dX8_store_18 : decode cX8_store 18 = Except.ok (Instr.iload_n 1, 1) := by decide +kernel
theorem dX8_store_19 : decode cX8_store 19 = Except.ok (Instr.aload_n 0, 1) := by decide +kernel
theorem dX8_store_20 : decode cX8_store 20 = Except.ok (Instr.getfield 40, 3) := by decide +kernel
theorem dX8_store_23 : decode cX8_store 23 = Except.ok (Instr.getfield 196, 3) := by decide +kernel
theorem dX8_store_26 : decode cX8_store 26 = Except.ok (Instr.invokevirtual 243, 3) := by decide +kernel
theorem dX8_store_29 : decode cX8_store 29 = Except.ok (Instr.ireturn, 1) := by decide +kernel
theorem dX8_recall_0 : decode cX8_recall 0 = Except.ok (Instr.aload_n 0, 1) := by decide +kernel
theorem dX8_recall_1 : decode cX8_recall 1 = Except.ok (Instr.getfield 47, 3) := by decide +kernel
theorem dX8_recall_4 : decode cX8_recall 4 = Except.ok (Instr.iload_n 1, 1) := by decide +kernel
theorem dX8_recall_5 : decode cX8_recall 5 = Except.ok (Instr.invokevirtual 246, 3) := by decide +kernel
theorem dX8_recall_8 : decode cX8_recall 8 = Except.ok (Instr.istore_n 2, 1) := by decide +kernel
theorem dX8_recall_9 : decode cX8_recall 9 = Except.ok (Instr.iload_n 2, 1) := by decide +kernel
theorem dX8_recall_10 : decode cX8_recall 10 = Except.ok (Instr.iconst (-1), 1) := by decide +kernel
theorem dX8_recall_11 : decode cX8_recall 11 = Except.ok (Instr.if_icmp .ne 5, 3) := by decide +kernel
theorem dX8_recall_14 : decode cX8_recall 14 = Except.ok (Instr.iconst (-1), 1) := by decide +kernel
theorem dX8_recall_15 : decode cX8_recall 15 = Except.ok (Instr.ireturn, 1) := by decide +kernel
theorem dX8_recall_16 : decode cX8_recall 16 = Except.ok (Instr.aload_n 0, 1) := by decide +kernel
theorem dX8_recall_17 : decode cX8_recall 17 = Except.ok (Instr.getfield 40, 3) := by decide +kernel
theorem dX8_recall_20 : decode cX8_recall 20 = Except.ok (Instr.getfield 196, 3) := by decide +kernel
theorem dX8_recall_23 : decode cX8_recall 23 = Except.ok (Instr.aload_n 0, 1) := by decide +kernel
theorem dX8_recall_24 : decode cX8_recall 24 = Except.ok (Instr.getfield 47, 3) := by decide +kernel
theorem dX8_recall_27 : decode cX8_recall 27 = Except.ok (Instr.iload_n 2, 1) := by decide +kernel
theorem dX8_recall_28 : decode cX8_recall 28 = Except.ok (Instr.invokevirtual 249, 3) := by decide +kernel
theorem dX8_recall_31 : decode cX8_recall 31 = Except.ok (Instr.invokevirtual 252, 3) := by decide +kernel
theorem dX8_recall_34 : decode cX8_recall 34 = Except.ok (Instr.iconst 0, 1) := by decide +kernel
theorem dX8_recall_35 : decode cX8_recall 35 = Except.ok (Instr.ireturn, 1) := by decide +kernel
theorem dX8_forget_0 : decode cX8_forget 0 = Except.ok (Instr.aload_n 0, 1) := by decide +kernel
theorem dX8_forget_1 : decode cX8_forget 1 = Except.ok (Instr.getfield 47, 3) := by decide +kernel
theorem dX8_forget_4 : decode cX8_forget 4 = Except.ok (Instr.iload_n 1, 1) := by decide +kernel
theorem dX8_forget_5 : decode cX8_forget 5 = Except.ok (Instr.invokevirtual 246, 3) := by decide +kernel
theorem dX8_forget_8 : decode cX8_forget 8 = Except.ok (Instr.istore_n 2, 1) := by decide +kernel
theorem dX8_forget_9 : decode cX8_forget 9 = Except.ok (Instr.iload_n 2, 1) := by decide +kernel
theorem dX8_forget_10 : decode cX8_forget 10 = Except.ok (Instr.iconst (-1), 1) := by decide +kernel
theorem dX8_forget_11 : decode cX8_forget 11 = Except.ok (Instr.if_icmp .ne 5, 3) := by decide +kernel
theorem dX8_forget_14 : decode cX8_forget 14 = Except.ok (Instr.iconst (-1), 1) := by decide +kernel
theorem dX8_forget_15 : decode cX8_forget 15 = Except.ok (Instr.ireturn, 1) := by decide +kernel
theorem dX8_forget_16 : decode cX8_forget 16 = Except.ok (Instr.aload_n 0, 1) := by decide +kernel
theorem dX8_forget_17 : decode cX8_forget 17 = Except.ok (Instr.getfield 47, 3) := by decide +kernel
theorem dX8_forget_20 : decode cX8_forget 20 = Except.ok (Instr.iload_n 2, 1) := by decide +kernel
theorem dX8_forget_21 : decode cX8_forget 21 = Except.ok (Instr.invokevirtual 256, 3) := by decide +kernel
theorem dX8_forget_24 : decode cX8_forget 24 = Except.ok (Instr.ireturn, 1) := by decide +kernel
theorem dX8_angleTo_0 : decode cX8_angleTo 0 = Except.ok (Instr.aload_n 0, 1) := by decide +kernel
theorem dX8_angleTo_1 : decode cX8_angleTo 1 = Except.ok (Instr.getfield 47, 3) := by decide +kernel
theorem dX8_angleTo_4 : decode cX8_angleTo 4 = Except.ok (Instr.iload_n 1, 1) := by decide +kernel
theorem dX8_angleTo_5 : decode cX8_angleTo 5 = Except.ok (Instr.invokevirtual 246, 3) := by decide +kernel
theorem dX8_angleTo_8 : decode cX8_angleTo 8 = Except.ok (Instr.istore_n 2, 1) := by decide +kernel
theorem dX8_angleTo_9 : decode cX8_angleTo 9 = Except.ok (Instr.iload_n 2, 1) := by decide +kernel
theorem dX8_angleTo_10 : decode cX8_angleTo 10 = Except.ok (Instr.iconst (-1), 1) := by decide +kernel
theorem dX8_angleTo_11 : decode cX8_angleTo 11 = Except.ok (Instr.if_icmp .ne 7, 3) := by decide +kernel
theorem dX8_angleTo_14 : decode cX8_angleTo 14 = Except.ok (Instr.ldc2_w 259, 3) := by decide +kernel
theorem dX8_angleTo_17 : decode cX8_angleTo 17 = Except.ok (Instr.lreturn, 1) := by decide +kernel
theorem dX8_angleTo_18 : decode cX8_angleTo 18 = Except.ok (Instr.aload_n 0, 1) := by decide +kernel
theorem dX8_angleTo_19 : decode cX8_angleTo 19 = Except.ok (Instr.getfield 40, 3) := by decide +kernel
theorem dX8_angleTo_22 : decode cX8_angleTo 22 = Except.ok (Instr.getfield 196, 3) := by decide +kernel
theorem dX8_angleTo_25 : decode cX8_angleTo 25 = Except.ok (Instr.aload_n 0, 1) := by decide +kernel
theorem dX8_angleTo_26 : decode cX8_angleTo 26 = Except.ok (Instr.getfield 47, 3) := by decide +kernel
theorem dX8_angleTo_29 : decode cX8_angleTo 29 = Except.ok (Instr.iload_n 2, 1) := by decide +kernel
theorem dX8_angleTo_30 : decode cX8_angleTo 30 = Except.ok (Instr.invokevirtual 249, 3) := by decide +kernel
theorem dX8_angleTo_33 : decode cX8_angleTo 33 = Except.ok (Instr.invokevirtual 202, 3) := by decide +kernel
theorem dX8_angleTo_36 : decode cX8_angleTo 36 = Except.ok (Instr.lreturn, 1) := by decide +kernel
theorem dX8_storedNumber_0 : decode cX8_storedNumber 0 = Except.ok (Instr.aload_n 0, 1) := by decide +kernel
theorem dX8_storedNumber_1 : decode cX8_storedNumber 1 = Except.ok (Instr.getfield 47, 3) := by decide +kernel
theorem dX8_storedNumber_4 : decode cX8_storedNumber 4 = Except.ok (Instr.iload_n 1, 1) := by decide +kernel
theorem dX8_storedNumber_5 : decode cX8_storedNumber 5 = Except.ok (Instr.invokevirtual 261, 3) := by decide +kernel
theorem dX8_storedNumber_8 : decode cX8_storedNumber 8 = Except.ok (Instr.ireturn, 1) := by decide +kernel
theorem dX8_reset_0 : decode cX8_reset 0 = Except.ok (Instr.aload_n 0, 1) := by decide +kernel
theorem dX8_reset_1 : decode cX8_reset 1 = Except.ok (Instr.getfield 124, 3) := by decide +kernel
theorem dX8_reset_4 : decode cX8_reset 4 = Except.ok (Instr.istore_n 1, 1) := by decide +kernel
theorem dX8_reset_5 : decode cX8_reset 5 = Except.ok (Instr.aload_n 0, 1) := by decide +kernel
theorem dX8_reset_6 : decode cX8_reset 6 = Except.ok (Instr.iconst 0, 1) := by decide +kernel
theorem dX8_reset_7 : decode cX8_reset 7 = Except.ok (Instr.putfield 124, 3) := by decide +kernel
theorem dX8_reset_10 : decode cX8_reset 10 = Except.ok (Instr.aload_n 0, 1) := by decide +kernel
theorem dX8_reset_11 : decode cX8_reset 11 = Except.ok (Instr.iconst 0, 1) := by decide +kernel
theorem dX8_reset_12 : decode cX8_reset 12 = Except.ok (Instr.putfield 235, 3) := by decide +kernel
theorem dX8_reset_15 : decode cX8_reset 15 = Except.ok (Instr.aload_n 0, 1) := by decide +kernel
theorem dX8_reset_16 : decode cX8_reset 16 = Except.ok (Instr.lconst 0, 1) := by decide +kernel
theorem dX8_reset_17 : decode cX8_reset 17 = Except.ok (Instr.putfield 206, 3) := by decide +kernel
theorem dX8_reset_20 : decode cX8_reset 20 = Except.ok (Instr.aload_n 0, 1) := by decide +kernel
theorem dX8_reset_21 : decode cX8_reset 21 = Except.ok (Instr.getfield 51, 3) := by decide +kernel
theorem dX8_reset_24 : decode cX8_reset 24 = Except.ok (Instr.lconst 0, 1) := by decide +kernel
theorem dX8_reset_25 : decode cX8_reset 25 = Except.ok (Instr.invokestatic 264, 3) := by decide +kernel
theorem dX8_reset_28 : decode cX8_reset 28 = Except.ok (Instr.aload_n 0, 1) := by decide +kernel
theorem dX8_reset_29 : decode cX8_reset 29 = Except.ok (Instr.getfield 10, 3) := by decide +kernel
theorem dX8_reset_32 : decode cX8_reset 32 = Except.ok (Instr.invokevirtual 270, 3) := by decide +kernel
theorem dX8_reset_35 : decode cX8_reset 35 = Except.ok (Instr.aload_n 0, 1) := by decide +kernel
theorem dX8_reset_36 : decode cX8_reset 36 = Except.ok (Instr.getfield 19, 3) := by decide +kernel
theorem dX8_reset_39 : decode cX8_reset 39 = Except.ok (Instr.invokevirtual 113, 3) := by decide +kernel
theorem dX8_reset_42 : decode cX8_reset 42 = Except.ok (Instr.pop, 1) := by decide +kernel
theorem dX8_reset_43 : decode cX8_reset 43 = Except.ok (Instr.aload_n 0, 1) := by decide +kernel
theorem dX8_reset_44 : decode cX8_reset 44 = Except.ok (Instr.getfield 26, 3) := by decide +kernel
theorem dX8_reset_47 : decode cX8_reset 47 = Except.ok (Instr.invokevirtual 273, 3) := by decide +kernel
theorem dX8_reset_50 : decode cX8_reset 50 = Except.ok (Instr.aload_n 0, 1) := by decide +kernel
theorem dX8_reset_51 : decode cX8_reset 51 = Except.ok (Instr.getfield 33, 3) := by decide +kernel
theorem dX8_reset_54 : decode cX8_reset 54 = Except.ok (Instr.invokevirtual 276, 3) := by decide +kernel
theorem dX8_reset_57 : decode cX8_reset 57 = Except.ok (Instr.aload_n 0, 1) := by decide +kernel
theorem dX8_reset_58 : decode cX8_reset 58 = Except.ok (Instr.getfield 40, 3) := by decide +kernel
theorem dX8_reset_61 : decode cX8_reset 61 = Except.ok (Instr.invokevirtual 278, 3) := by decide +kernel
theorem dX8_reset_64 : decode cX8_reset 64 = Except.ok (Instr.aload_n 0, 1) := by decide +kernel
theorem dX8_reset_65 : decode cX8_reset 65 = Except.ok (Instr.getfield 47, 3) := by decide +kernel
theorem dX8_reset_68 : decode cX8_reset 68 = Except.ok (Instr.invokevirtual 279, 3) := by decide +kernel
theorem dX8_reset_71 : decode cX8_reset 71 = Except.ok (Instr.iload_n 1, 1) := by decide +kernel
theorem dX8_reset_72 : decode cX8_reset 72 = Except.ok (Instr.ireturn, 1) := by decide +kernel
theorem dX8_isTurn_0 : decode cX8_isTurn 0 = Except.ok (Instr.iload_n 0, 1) := by decide +kernel
theorem dX8_isTurn_1 : decode cX8_isTurn 1 = Except.ok (Instr.i2l, 1) := by decide +kernel
theorem dX8_isTurn_2 : decode cX8_isTurn 2 = Except.ok (Instr.ldc2_w 280, 3) := by decide +kernel
theorem dX8_isTurn_5 : decode cX8_isTurn 5 = Except.ok (Instr.invokestatic 75, 3) := by decide +kernel
theorem dX8_isTurn_8 : decode cX8_isTurn 8 = Except.ok (Instr.ifCond .eq 29, 3) := by decide +kernel
theorem dX8_isTurn_11 : decode cX8_isTurn 11 = Except.ok (Instr.iload_n 1, 1) := by decide +kernel
theorem dX8_isTurn_12 : decode cX8_isTurn 12 = Except.ok (Instr.i2l, 1) := by decide +kernel
theorem dX8_isTurn_13 : decode cX8_isTurn 13 = Except.ok (Instr.ldc2_w 280, 3) := by decide +kernel
theorem dX8_isTurn_16 : decode cX8_isTurn 16 = Except.ok (Instr.invokestatic 75, 3) := by decide +kernel
theorem dX8_isTurn_19 : decode cX8_isTurn 19 = Except.ok (Instr.ifCond .eq 18, 3) := by decide +kernel
theorem dX8_isTurn_22 : decode cX8_isTurn 22 = Except.ok (Instr.iload_n 2, 1) := by decide +kernel
theorem dX8_isTurn_23 : decode cX8_isTurn 23 = Except.ok (Instr.i2l, 1) := by decide +kernel
theorem dX8_isTurn_24 : decode cX8_isTurn 24 = Except.ok (Instr.ldc2_w 280, 3) := by decide +kernel
theorem dX8_isTurn_27 : decode cX8_isTurn 27 = Except.ok (Instr.invokestatic 75, 3) := by decide +kernel
theorem dX8_isTurn_30 : decode cX8_isTurn 30 = Except.ok (Instr.ifCond .eq 7, 3) := by decide +kernel
theorem dX8_isTurn_33 : decode cX8_isTurn 33 = Except.ok (Instr.iconst 1, 1) := by decide +kernel
theorem dX8_isTurn_34 : decode cX8_isTurn 34 = Except.ok (Instr.goto 4, 3) := by decide +kernel
theorem dX8_isTurn_37 : decode cX8_isTurn 37 = Except.ok (Instr.iconst 0, 1) := by decide +kernel
theorem dX8_isTurn_38 : decode cX8_isTurn 38 = Except.ok (Instr.ireturn, 1) := by decide +kernel
theorem dX8_isUnitVector_0 : decode cX8_isUnitVector 0 = Except.ok (Instr.iload_n 0, 1) := by decide +kernel
theorem dX8_isUnitVector_1 : decode cX8_isUnitVector 1 = Except.ok (Instr.i2l, 1) := by decide +kernel
theorem dX8_isUnitVector_2 : decode cX8_isUnitVector 2 = Except.ok (Instr.ldc2_w 282, 3) := by decide +kernel
theorem dX8_isUnitVector_5 : decode cX8_isUnitVector 5 = Except.ok (Instr.invokestatic 75, 3) := by decide +kernel
theorem dX8_isUnitVector_8 : decode cX8_isUnitVector 8 = Except.ok (Instr.ifCond .eq 29, 3) := by decide +kernel
theorem dX8_isUnitVector_11 : decode cX8_isUnitVector 11 = Except.ok (Instr.iload_n 1, 1) := by decide +kernel
theorem dX8_isUnitVector_12 : decode cX8_isUnitVector 12 = Except.ok (Instr.i2l, 1) := by decide +kernel
theorem dX8_isUnitVector_13 : decode cX8_isUnitVector 13 = Except.ok (Instr.ldc2_w 282, 3) := by decide +kernel
theorem dX8_isUnitVector_16 : decode cX8_isUnitVector 16 = Except.ok (Instr.invokestatic 75, 3) := by decide +kernel
theorem dX8_isUnitVector_19 : decode cX8_isUnitVector 19 = Except.ok (Instr.ifCond .eq 18, 3) := by decide +kernel
theorem dX8_isUnitVector_22 : decode cX8_isUnitVector 22 = Except.ok (Instr.iload_n 2, 1) := by decide +kernel
theorem dX8_isUnitVector_23 : decode cX8_isUnitVector 23 = Except.ok (Instr.i2l, 1) := by decide +kernel
theorem dX8_isUnitVector_24 : decode cX8_isUnitVector 24 = Except.ok (Instr.ldc2_w 282, 3) := by decide +kernel
theorem dX8_isUnitVector_27 : decode cX8_isUnitVector 27 = Except.ok (Instr.invokestatic 75, 3) := by decide +kernel
theorem dX8_isUnitVector_30 : decode cX8_isUnitVector 30 = Except.ok (Instr.ifCond .eq 7, 3) := by decide +kernel
theorem dX8_isUnitVector_33 : decode cX8_isUnitVector 33 = Except.ok (Instr.iconst 1, 1) := by decide +kernel
theorem dX8_isUnitVector_34 : decode cX8_isUnitVector 34 = Except.ok (Instr.goto 4, 3) := by decide +kernel
theorem dX8_isUnitVector_37 : decode cX8_isUnitVector 37 = Except.ok (Instr.iconst 0, 1) := by decide +kernel
theorem dX8_isUnitVector_38 : decode cX8_isUnitVector 38 = Except.ok (Instr.ireturn, 1) := by decide +kernel
theorem dX8_tick_0 : decode cX8_tick 0 = Except.ok (Instr.aload_n 0, 1) := by decide +kernel
theorem dX8_tick_1 : decode cX8_tick 1 = Except.ok (Instr.getfield 19, 3) := by decide +kernel
theorem dX8_tick_4 : decode cX8_tick 4 = Except.ok (Instr.aload_n 0, 1) := by decide +kernel
theorem dX8_tick_5 : decode cX8_tick 5 = Except.ok (Instr.getfield 55, 3) := by decide +kernel
theorem dX8_tick_8 : decode cX8_tick 8 = Except.ok (Instr.invokevirtual 284, 3) := by decide +kernel
theorem dX8_tick_11 : decode cX8_tick 11 = Except.ok (Instr.aload_n 0, 1) := by decide +kernel
theorem dX8_tick_12 : decode cX8_tick 12 = Except.ok (Instr.getfield 26, 3) := by decide +kernel
theorem dX8_tick_15 : decode cX8_tick 15 = Except.ok (Instr.aload_n 0, 1) := by decide +kernel
theorem dX8_tick_16 : decode cX8_tick 16 = Except.ok (Instr.getfield 55, 3) := by decide +kernel
theorem dX8_tick_19 : decode cX8_tick 19 = Except.ok (Instr.aload_n 0, 1) := by decide +kernel
theorem dX8_tick_20 : decode cX8_tick 20 = Except.ok (Instr.getfield 51, 3) := by decide +kernel
theorem dX8_tick_23 : decode cX8_tick 23 = Except.ok (Instr.aload_n 0, 1) := by decide +kernel
theorem dX8_tick_24 : decode cX8_tick 24 = Except.ok (Instr.getfield 10, 3) := by decide +kernel
theorem dX8_tick_27 : decode cX8_tick 27 = Except.ok (Instr.invokevirtual 287, 3) := by decide +kernel
theorem dX8_tick_30 : decode cX8_tick 30 = Except.ok (Instr.aload_n 0, 1) := by decide +kernel
theorem dX8_tick_31 : decode cX8_tick 31 = Except.ok (Instr.getfield 10, 3) := by decide +kernel
theorem dX8_tick_34 : decode cX8_tick 34 = Except.ok (Instr.aload_n 0, 1) := by decide +kernel
theorem dX8_tick_35 : decode cX8_tick 35 = Except.ok (Instr.getfield 55, 3) := by decide +kernel
theorem dX8_tick_38 : decode cX8_tick 38 = Except.ok (Instr.iconst 0, 1) := by decide +kernel
theorem dX8_tick_39 : decode cX8_tick 39 = Except.ok (Instr.laload, 1) := by decide +kernel
theorem dX8_tick_40 : decode cX8_tick 40 = Except.ok (Instr.aload_n 0, 1) := by decide +kernel
theorem dX8_tick_41 : decode cX8_tick 41 = Except.ok (Instr.getfield 55, 3) := by decide +kernel
theorem dX8_tick_44 : decode cX8_tick 44 = Except.ok (Instr.iconst 1, 1) := by decide +kernel
theorem dX8_tick_45 : decode cX8_tick 45 = Except.ok (Instr.laload, 1) := by decide +kernel
theorem dX8_tick_46 : decode cX8_tick 46 = Except.ok (Instr.aload_n 0, 1) := by decide +kernel
theorem dX8_tick_47 : decode cX8_tick 47 = Except.ok (Instr.getfield 55, 3) := by decide +kernel
theorem dX8_tick_50 : decode cX8_tick 50 = Except.ok (Instr.iconst 2, 1) := by decide +kernel
theorem dX8_tick_51 : decode cX8_tick 51 = Except.ok (Instr.laload, 1) := by decide +kernel
theorem dX8_tick_52 : decode cX8_tick 52 = Except.ok (Instr.invokevirtual 120, 3) := by decide +kernel
theorem dX8_tick_55 : decode cX8_tick 55 = Except.ok (Instr.aload_n 0, 1) := by decide +kernel
theorem dX8_tick_56 : decode cX8_tick 56 = Except.ok (Instr.getfield 26, 3) := by decide +kernel
theorem dX8_tick_59 : decode cX8_tick 59 = Except.ok (Instr.aload_n 0, 1) := by decide +kernel
theorem dX8_tick_60 : decode cX8_tick 60 = Except.ok (Instr.getfield 10, 3) := by decide +kernel
theorem dX8_tick_63 : decode cX8_tick 63 = Except.ok (Instr.invokevirtual 291, 3) := by decide +kernel
theorem dX8_tick_66 : decode cX8_tick 66 = Except.ok (Instr.aload_n 0, 1) := by decide +kernel
theorem dX8_tick_67 : decode cX8_tick 67 = Except.ok (Instr.getfield 40, 3) := by decide +kernel
theorem dX8_tick_70 : decode cX8_tick 70 = Except.ok (Instr.aload_n 0, 1) := by decide +kernel
theorem dX8_tick_71 : decode cX8_tick 71 = Except.ok (Instr.getfield 26, 3) := by decide +kernel
theorem dX8_tick_74 : decode cX8_tick 74 = Except.ok (Instr.aload_n 0, 1) := by decide +kernel
theorem dX8_tick_75 : decode cX8_tick 75 = Except.ok (Instr.getfield 33, 3) := by decide +kernel
theorem dX8_tick_78 : decode cX8_tick 78 = Except.ok (Instr.aload_n 0, 1) := by decide +kernel
theorem dX8_tick_79 : decode cX8_tick 79 = Except.ok (Instr.getfield 51, 3) := by decide +kernel
theorem dX8_tick_82 : decode cX8_tick 82 = Except.ok (Instr.invokevirtual 295, 3) := by decide +kernel
theorem dX8_tick_85 : decode cX8_tick 85 = Except.ok (Instr.aload_n 0, 1) := by decide +kernel
theorem dX8_tick_86 : decode cX8_tick 86 = Except.ok (Instr.dup, 1) := by decide +kernel
theorem dX8_tick_87 : decode cX8_tick 87 = Except.ok (Instr.getfield 124, 3) := by decide +kernel
theorem dX8_tick_90 : decode cX8_tick 90 = Except.ok (Instr.iconst 1, 1) := by decide +kernel
theorem dX8_tick_91 : decode cX8_tick 91 = Except.ok (Instr.iadd, 1) := by decide +kernel
theorem dX8_tick_92 : decode cX8_tick 92 = Except.ok (Instr.putfield 124, 3) := by decide +kernel
theorem dX8_tick_95 : decode cX8_tick 95 = Except.ok (Instr.aload_n 0, 1) := by decide +kernel
theorem dX8_tick_96 : decode cX8_tick 96 = Except.ok (Instr.dup, 1) := by decide +kernel
theorem dX8_tick_97 : decode cX8_tick 97 = Except.ok (Instr.getfield 235, 3) := by decide +kernel
theorem dX8_tick_100 : decode cX8_tick 100 = Except.ok (Instr.iconst 1, 1) := by decide +kernel
theorem dX8_tick_101 : decode cX8_tick 101 = Except.ok (Instr.aload_n 0, 1) := by decide +kernel
theorem dX8_tick_102 : decode cX8_tick 102 = Except.ok (Instr.getfield 26, 3) := by decide +kernel
theorem dX8_tick_105 : decode cX8_tick 105 = Except.ok (Instr.invokevirtual 182, 3) := by decide +kernel
theorem dX8_tick_108 : decode cX8_tick 108 = Except.ok (Instr.invokestatic 299, 3) := by decide +kernel
theorem dX8_tick_111 : decode cX8_tick 111 = Except.ok (Instr.ishl, 1) := by decide +kernel
theorem dX8_tick_112 : decode cX8_tick 112 = Except.ok (Instr.ior, 1) := by decide +kernel
theorem dX8_tick_113 : decode cX8_tick 113 = Except.ok (Instr.putfield 235, 3) := by decide +kernel
theorem dX8_tick_116 : decode cX8_tick 116 = Except.ok (Instr.aload_n 0, 1) := by decide +kernel
theorem dX8_tick_117 : decode cX8_tick 117 = Except.ok (Instr.aload_n 0, 1) := by decide +kernel
theorem dX8_tick_118 : decode cX8_tick 118 = Except.ok (Instr.getfield 206, 3) := by decide +kernel
theorem dX8_tick_121 : decode cX8_tick 121 = Except.ok (Instr.aload_n 0, 1) := by decide +kernel
theorem dX8_tick_122 : decode cX8_tick 122 = Except.ok (Instr.invokevirtual 302, 3) := by decide +kernel
theorem dX8_tick_125 : decode cX8_tick 125 = Except.ok (Instr.invokestatic 306, 3) := by decide +kernel
theorem dX8_tick_128 : decode cX8_tick 128 = Except.ok (Instr.putfield 206, 3) := by decide +kernel
theorem dX8_tick_131 : decode cX8_tick 131 = Except.ok (Instr.return_, 1) := by decide +kernel
theorem dX9_init_0 : decode cX9_init 0 = Except.ok (Instr.aload_n 0, 1) := by decide +kernel
theorem dX9_init_1 : decode cX9_init 1 = Except.ok (Instr.invokespecial 1, 3) := by decide +kernel
theorem dX9_init_4 : decode cX9_init 4 = Except.ok (Instr.aload_n 0, 1) := by decide +kernel
theorem dX9_init_5 : decode cX9_init 5 = Except.ok (Instr.iconst 4, 1) := by decide +kernel
theorem dX9_init_6 : decode cX9_init 6 = Except.ok (Instr.newarray .long, 2) := by decide +kernel
theorem dX9_init_8 : decode cX9_init 8 = Except.ok (Instr.putfield 7, 3) := by decide +kernel
theorem dX9_init_11 : decode cX9_init 11 = Except.ok (Instr.aload_n 0, 1) := by decide +kernel
theorem dX9_init_12 : decode cX9_init 12 = Except.ok (Instr.iconst 4, 1) := by decide +kernel
theorem dX9_init_13 : decode cX9_init 13 = Except.ok (Instr.newarray .long, 2) := by decide +kernel
theorem dX9_init_15 : decode cX9_init 15 = Except.ok (Instr.putfield 13, 3) := by decide +kernel
theorem dX9_init_18 : decode cX9_init 18 = Except.ok (Instr.aload_n 0, 1) := by decide +kernel
theorem dX9_init_19 : decode cX9_init 19 = Except.ok (Instr.iconst 4, 1) := by decide +kernel
theorem dX9_init_20 : decode cX9_init 20 = Except.ok (Instr.newarray .long, 2) := by decide +kernel
theorem dX9_init_22 : decode cX9_init 22 = Except.ok (Instr.putfield 16, 3) := by decide +kernel
theorem dX9_init_25 : decode cX9_init 25 = Except.ok (Instr.aload_n 0, 1) := by decide +kernel
theorem dX9_init_26 : decode cX9_init 26 = Except.ok (Instr.iconst 4, 1) := by decide +kernel
theorem dX9_init_27 : decode cX9_init 27 = Except.ok (Instr.newarray .long, 2) := by decide +kernel
theorem dX9_init_29 : decode cX9_init 29 = Except.ok (Instr.putfield 19, 3) := by decide +kernel
theorem dX9_init_32 : decode cX9_init 32 = Except.ok (Instr.aload_n 0, 1) := by decide +kernel
theorem dX9_init_33 : decode cX9_init 33 = Except.ok (Instr.bipush 9, 2) := by decide +kernel
theorem dX9_init_35 : decode cX9_init 35 = Except.ok (Instr.newarray .long, 2) := by decide +kernel
theorem dX9_init_37 : decode cX9_init 37 = Except.ok (Instr.putfield 22, 3) := by decide +kernel
theorem dX9_init_40 : decode cX9_init 40 = Except.ok (Instr.aload_n 0, 1) := by decide +kernel
theorem dX9_init_41 : decode cX9_init 41 = Except.ok (Instr.iconst 3, 1) := by decide +kernel
theorem dX9_init_42 : decode cX9_init 42 = Except.ok (Instr.newarray .long, 2) := by decide +kernel
theorem dX9_init_44 : decode cX9_init 44 = Except.ok (Instr.putfield 25, 3) := by decide +kernel
theorem dX9_init_47 : decode cX9_init 47 = Except.ok (Instr.aload_n 0, 1) := by decide +kernel
theorem dX9_init_48 : decode cX9_init 48 = Except.ok (Instr.iconst 3, 1) := by decide +kernel
theorem dX9_init_49 : decode cX9_init 49 = Except.ok (Instr.newarray .long, 2) := by decide +kernel
theorem dX9_init_51 : decode cX9_init 51 = Except.ok (Instr.putfield 28, 3) := by decide +kernel
theorem dX9_init_54 : decode cX9_init 54 = Except.ok (Instr.aload_n 0, 1) := by decide +kernel
theorem dX9_init_55 : decode cX9_init 55 = Except.ok (Instr.iconst 4, 1) := by decide +kernel
theorem dX9_init_56 : decode cX9_init 56 = Except.ok (Instr.newarray .long, 2) := by decide +kernel
theorem dX9_init_58 : decode cX9_init 58 = Except.ok (Instr.putfield 31, 3) := by decide +kernel
theorem dX9_init_61 : decode cX9_init 61 = Except.ok (Instr.aload_n 0, 1) := by decide +kernel
theorem dX9_init_62 : decode cX9_init 62 = Except.ok (Instr.iconst 3, 1) := by decide +kernel
theorem dX9_init_63 : decode cX9_init 63 = Except.ok (Instr.newarray .int, 2) := by decide +kernel
theorem dX9_init_65 : decode cX9_init 65 = Except.ok (Instr.putfield 34, 3) := by decide +kernel
theorem dX9_init_68 : decode cX9_init 68 = Except.ok (Instr.aload_n 0, 1) := by decide +kernel
theorem dX9_init_69 : decode cX9_init 69 = Except.ok (Instr.iconst 3, 1) := by decide +kernel
theorem dX9_init_70 : decode cX9_init 70 = Except.ok (Instr.newarray .int, 2) := by decide +kernel
theorem dX9_init_72 : decode cX9_init 72 = Except.ok (Instr.putfield 38, 3) := by decide +kernel
theorem dX9_init_75 : decode cX9_init 75 = Except.ok (Instr.aload_n 0, 1) := by decide +kernel
theorem dX9_init_76 : decode cX9_init 76 = Except.ok (Instr.iconst 3, 1) := by decide +kernel
theorem dX9_init_77 : decode cX9_init 77 = Except.ok (Instr.newarray .int, 2) := by decide +kernel
theorem dX9_init_79 : decode cX9_init 79 = Except.ok (Instr.putfield 41, 3) := by decide +kernel
theorem dX9_init_82 : decode cX9_init 82 = Except.ok (Instr.aload_n 0, 1) := by decide +kernel
theorem dX9_init_83 : decode cX9_init 83 = Except.ok (Instr.iconst 3, 1) := by decide +kernel
theorem dX9_init_84 : decode cX9_init 84 = Except.ok (Instr.newarray .int, 2) := by decide +kernel
theorem dX9_init_86 : decode cX9_init 86 = Except.ok (Instr.putfield 44, 3) := by decide +kernel
theorem dX9_init_89 : decode cX9_init 89 = Except.ok (Instr.aload_n 0, 1) := by decide +kernel
theorem dX9_init_90 : decode cX9_init 90 = Except.ok (Instr.iconst 3, 1) := by decide +kernel
theorem dX9_init_91 : decode cX9_init 91 = Except.ok (Instr.newarray .int, 2) := by decide +kernel
theorem dX9_init_93 : decode cX9_init 93 = Except.ok (Instr.putfield 47, 3) := by decide +kernel
theorem dX9_init_96 : decode cX9_init 96 = Except.ok (Instr.aload_n 0, 1) := by decide +kernel
theorem dX9_init_97 : decode cX9_init 97 = Except.ok (Instr.bipush 20, 2) := by decide +kernel
theorem dX9_init_99 : decode cX9_init 99 = Except.ok (Instr.newarray .int, 2) := by decide +kernel
theorem dX9_init_101 : decode cX9_init 101 = Except.ok (Instr.putfield 50, 3) := by decide +kernel
theorem dX9_init_104 : decode cX9_init 104 = Except.ok (Instr.aload_n 0, 1) := by decide +kernel
theorem dX9_init_105 : decode cX9_init 105 = Except.ok (Instr.bipush 60, 2) := by decide +kernel
theorem dX9_init_107 : decode cX9_init 107 = Except.ok (Instr.newarray .int, 2) := by decide +kernel
theorem dX9_init_109 : decode cX9_init 109 = Except.ok (Instr.putfield 53, 3) := by decide +kernel
theorem dX9_init_112 : decode cX9_init 112 = Except.ok (Instr.aload_n 0, 1) := by decide +kernel
theorem dX9_init_113 : decode cX9_init 113 = Except.ok (Instr.iconst 3, 1) := by decide +kernel
theorem dX9_init_114 : decode cX9_init 114 = Except.ok (Instr.newarray .long, 2) := by decide +kernel
theorem dX9_init_116 : decode cX9_init 116 = Except.ok (Instr.putfield 56, 3) := by decide +kernel
theorem dX9_init_119 : decode cX9_init 119 = Except.ok (Instr.aload_n 0, 1) := by decide +kernel
theorem dX9_init_120 : decode cX9_init 120 = Except.ok (Instr.iconst 3, 1) := by decide +kernel
theorem dX9_init_121 : decode cX9_init 121 = Except.ok (Instr.newarray .long, 2) := by decide +kernel
theorem dX9_init_123 : decode cX9_init 123 = Except.ok (Instr.putfield 59, 3) := by decide +kernel
theorem dX9_init_126 : decode cX9_init 126 = Except.ok (Instr.aload_n 0, 1) := by decide +kernel
theorem dX9_init_127 : decode cX9_init 127 = Except.ok (Instr.iconst 3, 1) := by decide +kernel
theorem dX9_init_128 : decode cX9_init 128 = Except.ok (Instr.newarray .long, 2) := by decide +kernel
theorem dX9_init_130 : decode cX9_init 130 = Except.ok (Instr.putfield 62, 3) := by decide +kernel
theorem dX9_init_133 : decode cX9_init 133 = Except.ok (Instr.aload_n 0, 1) := by decide +kernel
theorem dX9_init_134 : decode cX9_init 134 = Except.ok (Instr.iconst 3, 1) := by decide +kernel
theorem dX9_init_135 : decode cX9_init 135 = Except.ok (Instr.newarray .long, 2) := by decide +kernel
theorem dX9_init_137 : decode cX9_init 137 = Except.ok (Instr.putfield 65, 3) := by decide +kernel
theorem dX9_init_140 : decode cX9_init 140 = Except.ok (Instr.aload_n 0, 1) := by decide +kernel
theorem dX9_init_141 : decode cX9_init 141 = Except.ok (Instr.iconst 3, 1) := by decide +kernel
theorem dX9_init_142 : decode cX9_init 142 = Except.ok (Instr.newarray .long, 2) := by decide +kernel
theorem dX9_init_144 : decode cX9_init 144 = Except.ok (Instr.putfield 68, 3) := by decide +kernel
theorem dX9_init_147 : decode cX9_init 147 = Except.ok (Instr.aload_n 0, 1) := by decide +kernel
theorem dX9_init_148 : decode cX9_init 148 = Except.ok (Instr.iconst 3, 1) := by decide +kernel
theorem dX9_init_149 : decode cX9_init 149 = Except.ok (Instr.newarray .long, 2) := by decide +kernel
theorem dX9_init_151 : decode cX9_init 151 = Except.ok (Instr.putfield 71, 3) := by decide +kernel
theorem dX9_init_154 : decode cX9_init 154 = Except.ok (Instr.aload_n 0, 1) := by decide +kernel
theorem dX9_init_155 : decode cX9_init 155 = Except.ok (Instr.iconst 3, 1) := by decide +kernel
theorem dX9_init_156 : decode cX9_init 156 = Except.ok (Instr.newarray .long, 2) := by decide +kernel
theorem dX9_init_158 : decode cX9_init 158 = Except.ok (Instr.putfield 74, 3) := by decide +kernel
theorem dX9_init_161 : decode cX9_init 161 = Except.ok (Instr.aload_n 0, 1) := by decide +kernel
theorem dX9_init_162 : decode cX9_init 162 = Except.ok (Instr.iconst 3, 1) := by decide +kernel
theorem dX9_init_163 : decode cX9_init 163 = Except.ok (Instr.newarray .long, 2) := by decide +kernel
theorem dX9_init_165 : decode cX9_init 165 = Except.ok (Instr.putfield 77, 3) := by decide +kernel
theorem dX9_init_168 : decode cX9_init 168 = Except.ok (Instr.aload_n 0, 1) := by decide +kernel
theorem dX9_init_169 : decode cX9_init 169 = Except.ok (Instr.iconst 3, 1) := by decide +kernel
theorem dX9_init_170 : decode cX9_init 170 = Except.ok (Instr.newarray .long, 2) := by decide +kernel
theorem dX9_init_172 : decode cX9_init 172 = Except.ok (Instr.putfield 80, 3) := by decide +kernel
theorem dX9_init_175 : decode cX9_init 175 = Except.ok (Instr.aload_n 0, 1) := by decide +kernel
theorem dX9_init_176 : decode cX9_init 176 = Except.ok (Instr.bipush 39, 2) := by decide +kernel
theorem dX9_init_178 : decode cX9_init 178 = Except.ok (Instr.newarray .int, 2) := by decide +kernel
theorem dX9_init_180 : decode cX9_init 180 = Except.ok (Instr.putfield 83, 3) := by decide +kernel
theorem dX9_init_183 : decode cX9_init 183 = Except.ok (Instr.aload_n 0, 1) := by decide +kernel
theorem dX9_init_184 : decode cX9_init 184 = Except.ok (Instr.bipush 39, 2) := by decide +kernel
theorem dX9_init_186 : decode cX9_init 186 = Except.ok (Instr.newarray .boolean, 2) := by decide +kernel
theorem dX9_init_188 : decode cX9_init 188 = Except.ok (Instr.putfield 86, 3) := by decide +kernel
theorem dX9_init_191 : decode cX9_init 191 = Except.ok (Instr.aload_n 0, 1) := by decide +kernel
theorem dX9_init_192 : decode cX9_init 192 = Except.ok (Instr.bipush 13, 2) := by decide +kernel
theorem dX9_init_194 : decode cX9_init 194 = Except.ok (Instr.newarray .boolean, 2) := by decide +kernel
theorem dX9_init_196 : decode cX9_init 196 = Except.ok (Instr.putfield 90, 3) := by decide +kernel
theorem dX9_init_199 : decode cX9_init 199 = Except.ok (Instr.aload_n 0, 1) := by decide +kernel
theorem dX9_init_200 : decode cX9_init 200 = Except.ok (Instr.bipush 30, 2) := by decide +kernel
theorem dX9_init_202 : decode cX9_init 202 = Except.ok (Instr.newarray .int, 2) := by decide +kernel
theorem dX9_init_204 : decode cX9_init 204 = Except.ok (Instr.putfield 93, 3) := by decide +kernel
theorem dX9_init_207 : decode cX9_init 207 = Except.ok (Instr.aload_n 0, 1) := by decide +kernel
theorem dX9_init_208 : decode cX9_init 208 = Except.ok (Instr.bipush 120, 2) := by decide +kernel
theorem dX9_init_210 : decode cX9_init 210 = Except.ok (Instr.newarray .long, 2) := by decide +kernel
theorem dX9_init_212 : decode cX9_init 212 = Except.ok (Instr.putfield 96, 3) := by decide +kernel
theorem dX9_init_215 : decode cX9_init 215 = Except.ok (Instr.aload_n 0, 1) := by decide +kernel
theorem dX9_init_216 : decode cX9_init 216 = Except.ok (Instr.iconst 4, 1) := by decide +kernel
theorem dX9_init_217 : decode cX9_init 217 = Except.ok (Instr.newarray .long, 2) := by decide +kernel
theorem dX9_init_219 : decode cX9_init 219 = Except.ok (Instr.putfield 99, 3) := by decide +kernel
theorem dX9_init_222 : decode cX9_init 222 = Except.ok (Instr.aload_n 0, 1) := by decide +kernel
theorem dX9_init_223 : decode cX9_init 223 = Except.ok (Instr.invokevirtual 102, 3) := by decide +kernel
theorem dX9_init_226 : decode cX9_init 226 = Except.ok (Instr.return_, 1) := by decide +kernel
theorem dX9_isIn_0 : decode cX9_isIn 0 = Except.ok (Instr.lload_n 0, 1) := by decide +kernel
theorem dX9_isIn_1 : decode cX9_isIn 1 = Except.ok (Instr.lload_n 2, 1) := by decide +kernel
theorem dX9_isIn_2 : decode cX9_isIn 2 = Except.ok (Instr.lcmp, 1) := by decide +kernel
theorem dX9_isIn_3 : decode cX9_isIn 3 = Except.ok (Instr.ifCond .lt 14, 3) := by decide +kernel
theorem dX9_isIn_6 : decode cX9_isIn 6 = Except.ok (Instr.lload_n 0, 1) := by decide +kernel
theorem dX9_isIn_7 : decode cX9_isIn 7 = Except.ok (Instr.lload 4, 2) := by decide +kernel
theorem dX9_isIn_9 : decode cX9_isIn 9 = Except.ok (Instr.lcmp, 1) := by decide +kernel
theorem dX9_isIn_10 : decode cX9_isIn 10 = Except.ok (Instr.ifCond .gt 7, 3) := by decide +kernel
theorem dX9_isIn_13 : decode cX9_isIn 13 = Except.ok (Instr.iconst 1, 1) := by decide +kernel
theorem dX9_isIn_14 : decode cX9_isIn 14 = Except.ok (Instr.goto 4, 3) := by decide +kernel
theorem dX9_isIn_17 : decode cX9_isIn 17 = Except.ok (Instr.iconst 0, 1) := by decide +kernel
theorem dX9_isIn_18 : decode cX9_isIn 18 = Except.ok (Instr.ireturn, 1) := by decide +kernel
theorem dX9_isAxis_0 : decode cX9_isAxis 0 = Except.ok (Instr.iload_n 0, 1) := by decide +kernel
theorem dX9_isAxis_1 : decode cX9_isAxis 1 = Except.ok (Instr.i2l, 1) := by decide +kernel
theorem dX9_isAxis_2 : decode cX9_isAxis 2 = Except.ok (Instr.lconst 0, 1) := by decide +kernel
theorem dX9_isAxis_3 : decode cX9_isAxis 3 = Except.ok (Instr.ldc2_w 105, 3) := by decide +kernel
theorem dX9_isAxis_6 : decode cX9_isAxis 6 = Except.ok (Instr.invokestatic 107, 3) := by decide +kernel
theorem dX9_isAxis_9 : decode cX9_isAxis 9 = Except.ok (Instr.ireturn, 1) := by decide +kernel
theorem dX9_floor_0 : decode cX9_floor 0 = Except.ok (Instr.lload_n 0, 1) := by decide +kernel
theorem dX9_floor_1 : decode cX9_floor 1 = Except.ok (Instr.lload_n 2, 1) := by decide +kernel
theorem dX9_floor_2 : decode cX9_floor 2 = Except.ok (Instr.ldiv, 1) := by decide +kernel
theorem dX9_floor_3 : decode cX9_floor 3 = Except.ok (Instr.lstore 4, 2) := by decide +kernel
theorem dX9_floor_5 : decode cX9_floor 5 = Except.ok (Instr.lload 4, 2) := by decide +kernel
theorem dX9_floor_7 : decode cX9_floor 7 = Except.ok (Instr.lload_n 2, 1) := by decide +kernel
theorem dX9_floor_8 : decode cX9_floor 8 = Except.ok (Instr.lmul, 1) := by decide +kernel
theorem dX9_floor_9 : decode cX9_floor 9 = Except.ok (Instr.lload_n 0, 1) := by decide +kernel
theorem dX9_floor_10 : decode cX9_floor 10 = Except.ok (Instr.lcmp, 1) := by decide +kernel
theorem dX9_floor_11 : decode cX9_floor 11 = Except.ok (Instr.ifCond .eq 35, 3) := by decide +kernel
theorem dX9_floor_14 : decode cX9_floor 14 = Except.ok (Instr.lload_n 0, 1) := by decide +kernel
theorem dX9_floor_15 : decode cX9_floor 15 = Except.ok (Instr.lconst 0, 1) := by decide +kernel
theorem dX9_floor_16 : decode cX9_floor 16 = Except.ok (Instr.lcmp, 1) := by decide +kernel
theorem dX9_floor_17 : decode cX9_floor 17 = Except.ok (Instr.ifCond .ge 7, 3) := by decide +kernel
theorem dX9_floor_20 : decode cX9_floor 20 = Except.ok (Instr.iconst 1, 1) := by decide +kernel
theorem dX9_floor_21 : decode cX9_floor 21 = Except.ok (Instr.goto 4, 3) := by decide +kernel
theorem dX9_floor_24 : decode cX9_floor 24 = Except.ok (Instr.iconst 0, 1) := by decide +kernel
theorem dX9_floor_25 : decode cX9_floor 25 = Except.ok (Instr.lload_n 2, 1) := by decide +kernel
theorem dX9_floor_26 : decode cX9_floor 26 = Except.ok (Instr.lconst 0, 1) := by decide +kernel
theorem dX9_floor_27 : decode cX9_floor 27 = Except.ok (Instr.lcmp, 1) := by decide +kernel
theorem dX9_floor_28 : decode cX9_floor 28 = Except.ok (Instr.ifCond .ge 7, 3) := by decide +kernel
theorem dX9_floor_31 : decode cX9_floor 31 = Except.ok (Instr.iconst 1, 1) := by decide +kernel
theorem dX9_floor_32 : decode cX9_floor 32 = Except.ok (Instr.goto 4, 3) := by decide +kernel
theorem dX9_floor_35 : decode cX9_floor 35 = Except.ok (Instr.iconst 0, 1) := by decide +kernel
theorem dX9_floor_36 : decode cX9_floor 36 = Except.ok (Instr.if_icmp .eq 10, 3) := by decide +kernel
theorem dX9_floor_39 : decode cX9_floor 39 = Except.ok (Instr.lload 4, 2) := by decide +kernel
theorem dX9_floor_41 : decode cX9_floor 41 = Except.ok (Instr.lconst 1, 1) := by decide +kernel
theorem dX9_floor_42 : decode cX9_floor 42 = Except.ok (Instr.lsub, 1) := by decide +kernel
theorem dX9_floor_43 : decode cX9_floor 43 = Except.ok (Instr.goto 5, 3) := by decide +kernel
theorem dX9_floor_46 : decode cX9_floor 46 = Except.ok (Instr.lload 4, 2) := by decide +kernel
theorem dX9_floor_48 : decode cX9_floor 48 = Except.ok (Instr.lreturn, 1) := by decide +kernel
theorem dX9_root_0 : decode cX9_root 0 = Except.ok (Instr.lconst 0, 1) := by decide +kernel
theorem dX9_root_1 : decode cX9_root 1 = Except.ok (Instr.lstore_n 2, 1) := by decide +kernel
theorem dX9_root_2 : decode cX9_root 2 = Except.ok (Instr.ldc2_w 111, 3) := by decide +kernel
theorem dX9_root_5 : decode cX9_root 5 = Except.ok (Instr.lstore 4, 2) := by decide +kernel
theorem dX9_root_7 : decode cX9_root 7 = Except.ok (Instr.lload_n 2, 1) := by decide +kernel
theorem dX9_root_8 : decode cX9_root 8 = Except.ok (Instr.lload 4, 2) := by decide +kernel
theorem dX9_root_10 : decode cX9_root 10 = Except.ok (Instr.lcmp, 1) := by decide +kernel
theorem dX9_root_11 : decode cX9_root 11 = Except.ok (Instr.ifCond .ge 40, 3) := by decide +kernel
theorem dX9_root_14 : decode cX9_root 14 = Except.ok (Instr.lload_n 2, 1) := by decide +kernel
theorem dX9_root_15 : decode cX9_root 15 = Except.ok (Instr.lload 4, 2) := by decide +kernel
theorem dX9_root_17 : decode cX9_root 17 = Except.ok (Instr.ladd, 1) := by decide +kernel
theorem dX9_root_18 : decode cX9_root 18 = Except.ok (Instr.lconst 1, 1) := by decide +kernel
theorem dX9_root_19 : decode cX9_root 19 = Except.ok (Instr.ladd, 1) := by decide +kernel
theorem dX9_root_20 : decode cX9_root 20 = Except.ok (Instr.ldc2_w 105, 3) := by decide +kernel
theorem dX9_root_23 : decode cX9_root 23 = Except.ok (Instr.ldiv, 1) := by decide +kernel
theorem dX9_root_24 : decode cX9_root 24 = Except.ok (Instr.lstore 6, 2) := by decide +kernel
theorem dX9_root_26 : decode cX9_root 26 = Except.ok (Instr.lload 6, 2) := by decide +kernel
theorem dX9_root_28 : decode cX9_root 28 = Except.ok (Instr.lload 6, 2) := by decide +kernel
theorem dX9_root_30 : decode cX9_root 30 = Except.ok (Instr.lmul, 1) := by decide +kernel
theorem dX9_root_31 : decode cX9_root 31 = Except.ok (Instr.lload_n 0, 1) := by decide +kernel
theorem dX9_root_32 : decode cX9_root 32 = Except.ok (Instr.lcmp, 1) := by decide +kernel
theorem dX9_root_33 : decode cX9_root 33 = Except.ok (Instr.ifCond .gt 9, 3) := by decide +kernel
theorem dX9_root_36 : decode cX9_root 36 = Except.ok (Instr.lload 6, 2) := by decide +kernel
theorem dX9_root_38 : decode cX9_root 38 = Except.ok (Instr.lstore_n 2, 1) := by decide +kernel
theorem dX9_root_39 : decode cX9_root 39 = Except.ok (Instr.goto 9, 3) := by decide +kernel
theorem dX9_root_42 : decode cX9_root 42 = Except.ok (Instr.lload 6, 2) := by decide +kernel
theorem dX9_root_44 : decode cX9_root 44 = Except.ok (Instr.lconst 1, 1) := by decide +kernel
theorem dX9_root_45 : decode cX9_root 45 = Except.ok (Instr.lsub, 1) := by decide +kernel
theorem dX9_root_46 : decode cX9_root 46 = Except.ok (Instr.lstore 4, 2) := by decide +kernel
theorem dX9_root_48 : decode cX9_root 48 = Except.ok (Instr.goto (-41), 3) := by decide +kernel
theorem dX9_root_51 : decode cX9_root 51 = Except.ok (Instr.lload_n 2, 1) := by decide +kernel
theorem dX9_root_52 : decode cX9_root 52 = Except.ok (Instr.lreturn, 1) := by decide +kernel
theorem dX9_multiply_0 : decode cX9_multiply 0 = Except.ok (Instr.aload_n 0, 1) := by decide +kernel
theorem dX9_multiply_1 : decode cX9_multiply 1 = Except.ok (Instr.getfield 19, 3) := by decide +kernel
theorem dX9_multiply_4 : decode cX9_multiply 4 = Except.ok (Instr.iconst 0, 1) := by decide +kernel
theorem dX9_multiply_5 : decode cX9_multiply 5 = Except.ok (Instr.aload_n 1, 1) := by decide +kernel
theorem dX9_multiply_6 : decode cX9_multiply 6 = Except.ok (Instr.iconst 0, 1) := by decide +kernel
theorem dX9_multiply_7 : decode cX9_multiply 7 = Except.ok (Instr.laload, 1) := by decide +kernel
theorem dX9_multiply_8 : decode cX9_multiply 8 = Except.ok (Instr.aload_n 2, 1) := by decide +kernel
theorem dX9_multiply_9 : decode cX9_multiply 9 = Except.ok (Instr.iconst 0, 1) := by decide +kernel
theorem dX9_multiply_10 : decode cX9_multiply 10 = Except.ok (Instr.laload, 1) := by decide +kernel
theorem dX9_multiply_11 : decode cX9_multiply 11 = Except.ok (Instr.lmul, 1) := by decide +kernel
theorem dX9_multiply_12 : decode cX9_multiply 12 = Except.ok (Instr.aload_n 1, 1) := by decide +kernel
theorem dX9_multiply_13 : decode cX9_multiply 13 = Except.ok (Instr.iconst 1, 1) := by decide +kernel
theorem dX9_multiply_14 : decode cX9_multiply 14 = Except.ok (Instr.laload, 1) := by decide +kernel
theorem dX9_multiply_15 : decode cX9_multiply 15 = Except.ok (Instr.aload_n 2, 1) := by decide +kernel
theorem dX9_multiply_16 : decode cX9_multiply 16 = Except.ok (Instr.iconst 1, 1) := by decide +kernel
theorem dX9_multiply_17 : decode cX9_multiply 17 = Except.ok (Instr.laload, 1) := by decide +kernel
theorem dX9_multiply_18 : decode cX9_multiply 18 = Except.ok (Instr.lmul, 1) := by decide +kernel
theorem dX9_multiply_19 : decode cX9_multiply 19 = Except.ok (Instr.lsub, 1) := by decide +kernel
theorem dX9_multiply_20 : decode cX9_multiply 20 = Except.ok (Instr.aload_n 1, 1) := by decide +kernel
theorem dX9_multiply_21 : decode cX9_multiply 21 = Except.ok (Instr.iconst 2, 1) := by decide +kernel
theorem dX9_multiply_22 : decode cX9_multiply 22 = Except.ok (Instr.laload, 1) := by decide +kernel
theorem dX9_multiply_23 : decode cX9_multiply 23 = Except.ok (Instr.aload_n 2, 1) := by decide +kernel
theorem dX9_multiply_24 : decode cX9_multiply 24 = Except.ok (Instr.iconst 2, 1) := by decide +kernel
theorem dX9_multiply_25 : decode cX9_multiply 25 = Except.ok (Instr.laload, 1) := by decide +kernel
theorem dX9_multiply_26 : decode cX9_multiply 26 = Except.ok (Instr.lmul, 1) := by decide +kernel
theorem dX9_multiply_27 : decode cX9_multiply 27 = Except.ok (Instr.lsub, 1) := by decide +kernel
theorem dX9_multiply_28 : decode cX9_multiply 28 = Except.ok (Instr.aload_n 1, 1) := by decide +kernel
theorem dX9_multiply_29 : decode cX9_multiply 29 = Except.ok (Instr.iconst 3, 1) := by decide +kernel
theorem dX9_multiply_30 : decode cX9_multiply 30 = Except.ok (Instr.laload, 1) := by decide +kernel
theorem dX9_multiply_31 : decode cX9_multiply 31 = Except.ok (Instr.aload_n 2, 1) := by decide +kernel
theorem dX9_multiply_32 : decode cX9_multiply 32 = Except.ok (Instr.iconst 3, 1) := by decide +kernel
theorem dX9_multiply_33 : decode cX9_multiply 33 = Except.ok (Instr.laload, 1) := by decide +kernel
theorem dX9_multiply_34 : decode cX9_multiply 34 = Except.ok (Instr.lmul, 1) := by decide +kernel
theorem dX9_multiply_35 : decode cX9_multiply 35 = Except.ok (Instr.lsub, 1) := by decide +kernel
theorem dX9_multiply_36 : decode cX9_multiply 36 = Except.ok (Instr.bipush 28, 2) := by decide +kernel
theorem dX9_multiply_38 : decode cX9_multiply 38 = Except.ok (Instr.lshr, 1) := by decide +kernel
theorem dX9_multiply_39 : decode cX9_multiply 39 = Except.ok (Instr.lastore, 1) := by decide +kernel
theorem dX9_multiply_40 : decode cX9_multiply 40 = Except.ok (Instr.aload_n 0, 1) := by decide +kernel
theorem dX9_multiply_41 : decode cX9_multiply 41 = Except.ok (Instr.getfield 19, 3) := by decide +kernel
theorem dX9_multiply_44 : decode cX9_multiply 44 = Except.ok (Instr.iconst 1, 1) := by decide +kernel
theorem dX9_multiply_45 : decode cX9_multiply 45 = Except.ok (Instr.aload_n 1, 1) := by decide +kernel
theorem dX9_multiply_46 : decode cX9_multiply 46 = Except.ok (Instr.iconst 0, 1) := by decide +kernel
theorem dX9_multiply_47 : decode cX9_multiply 47 = Except.ok (Instr.laload, 1) := by decide +kernel
theorem dX9_multiply_48 : decode cX9_multiply 48 = Except.ok (Instr.aload_n 2, 1) := by decide +kernel
theorem dX9_multiply_49 : decode cX9_multiply 49 = Except.ok (Instr.iconst 1, 1) := by decide +kernel
theorem dX9_multiply_50 : decode cX9_multiply 50 = Except.ok (Instr.laload, 1) := by decide +kernel
theorem dX9_multiply_51 : decode cX9_multiply 51 = Except.ok (Instr.lmul, 1) := by decide +kernel
theorem dX9_multiply_52 : decode cX9_multiply 52 = Except.ok (Instr.aload_n 1, 1) := by decide +kernel
theorem dX9_multiply_53 : decode cX9_multiply 53 = Except.ok (Instr.iconst 1, 1) := by decide +kernel
theorem dX9_multiply_54 : decode cX9_multiply 54 = Except.ok (Instr.laload, 1) := by decide +kernel
theorem dX9_multiply_55 : decode cX9_multiply 55 = Except.ok (Instr.aload_n 2, 1) := by decide +kernel
theorem dX9_multiply_56 : decode cX9_multiply 56 = Except.ok (Instr.iconst 0, 1) := by decide +kernel
theorem dX9_multiply_57 : decode cX9_multiply 57 = Except.ok (Instr.laload, 1) := by decide +kernel
theorem dX9_multiply_58 : decode cX9_multiply 58 = Except.ok (Instr.lmul, 1) := by decide +kernel
theorem dX9_multiply_59 : decode cX9_multiply 59 = Except.ok (Instr.ladd, 1) := by decide +kernel
theorem dX9_multiply_60 : decode cX9_multiply 60 = Except.ok (Instr.aload_n 1, 1) := by decide +kernel
theorem dX9_multiply_61 : decode cX9_multiply 61 = Except.ok (Instr.iconst 2, 1) := by decide +kernel
theorem dX9_multiply_62 : decode cX9_multiply 62 = Except.ok (Instr.laload, 1) := by decide +kernel
theorem dX9_multiply_63 : decode cX9_multiply 63 = Except.ok (Instr.aload_n 2, 1) := by decide +kernel
theorem dX9_multiply_64 : decode cX9_multiply 64 = Except.ok (Instr.iconst 3, 1) := by decide +kernel
theorem dX9_multiply_65 : decode cX9_multiply 65 = Except.ok (Instr.laload, 1) := by decide +kernel
theorem dX9_multiply_66 : decode cX9_multiply 66 = Except.ok (Instr.lmul, 1) := by decide +kernel
theorem dX9_multiply_67 : decode cX9_multiply 67 = Except.ok (Instr.ladd, 1) := by decide +kernel
theorem dX9_multiply_68 : decode cX9_multiply 68 = Except.ok (Instr.aload_n 1, 1) := by decide +kernel
theorem dX9_multiply_69 : decode cX9_multiply 69 = Except.ok (Instr.iconst 3, 1) := by decide +kernel
theorem dX9_multiply_70 : decode cX9_multiply 70 = Except.ok (Instr.laload, 1) := by decide +kernel
theorem dX9_multiply_71 : decode cX9_multiply 71 = Except.ok (Instr.aload_n 2, 1) := by decide +kernel
theorem dX9_multiply_72 : decode cX9_multiply 72 = Except.ok (Instr.iconst 2, 1) := by decide +kernel
theorem dX9_multiply_73 : decode cX9_multiply 73 = Except.ok (Instr.laload, 1) := by decide +kernel
theorem dX9_multiply_74 : decode cX9_multiply 74 = Except.ok (Instr.lmul, 1) := by decide +kernel
theorem dX9_multiply_75 : decode cX9_multiply 75 = Except.ok (Instr.lsub, 1) := by decide +kernel
theorem dX9_multiply_76 : decode cX9_multiply 76 = Except.ok (Instr.bipush 28, 2) := by decide +kernel
theorem dX9_multiply_78 : decode cX9_multiply 78 = Except.ok (Instr.lshr, 1) := by decide +kernel
theorem dX9_multiply_79 : decode cX9_multiply 79 = Except.ok (Instr.lastore, 1) := by decide +kernel
theorem dX9_multiply_80 : decode cX9_multiply 80 = Except.ok (Instr.aload_n 0, 1) := by decide +kernel
theorem dX9_multiply_81 : decode cX9_multiply 81 = Except.ok (Instr.getfield 19, 3) := by decide +kernel
theorem dX9_multiply_84 : decode cX9_multiply 84 = Except.ok (Instr.iconst 2, 1) := by decide +kernel
theorem dX9_multiply_85 : decode cX9_multiply 85 = Except.ok (Instr.aload_n 1, 1) := by decide +kernel
theorem dX9_multiply_86 : decode cX9_multiply 86 = Except.ok (Instr.iconst 0, 1) := by decide +kernel
theorem dX9_multiply_87 : decode cX9_multiply 87 = Except.ok (Instr.laload, 1) := by decide +kernel
theorem dX9_multiply_88 : decode cX9_multiply 88 = Except.ok (Instr.aload_n 2, 1) := by decide +kernel
theorem dX9_multiply_89 : decode cX9_multiply 89 = Except.ok (Instr.iconst 2, 1) := by decide +kernel
theorem dX9_multiply_90 : decode cX9_multiply 90 = Except.ok (Instr.laload, 1) := by decide +kernel
theorem dX9_multiply_91 : decode cX9_multiply 91 = Except.ok (Instr.lmul, 1) := by decide +kernel
theorem dX9_multiply_92 : decode cX9_multiply 92 = Except.ok (Instr.aload_n 1, 1) := by decide +kernel
theorem dX9_multiply_93 : decode cX9_multiply 93 = Except.ok (Instr.iconst 1, 1) := by decide +kernel
theorem dX9_multiply_94 : decode cX9_multiply 94 = Except.ok (Instr.laload, 1) := by decide +kernel
theorem dX9_multiply_95 : decode cX9_multiply 95 = Except.ok (Instr.aload_n 2, 1) := by decide +kernel
theorem dX9_multiply_96 : decode cX9_multiply 96 = Except.ok (Instr.iconst 3, 1) := by decide +kernel
theorem dX9_multiply_97 : decode cX9_multiply 97 = Except.ok (Instr.laload, 1) := by decide +kernel
theorem dX9_multiply_98 : decode cX9_multiply 98 = Except.ok (Instr.lmul, 1) := by decide +kernel
theorem dX9_multiply_99 : decode cX9_multiply 99 = Except.ok (Instr.lsub, 1) := by decide +kernel
theorem dX9_multiply_100 : decode cX9_multiply 100 = Except.ok (Instr.aload_n 1, 1) := by decide +kernel
theorem dX9_multiply_101 : decode cX9_multiply 101 = Except.ok (Instr.iconst 2, 1) := by decide +kernel
theorem dX9_multiply_102 : decode cX9_multiply 102 = Except.ok (Instr.laload, 1) := by decide +kernel
theorem dX9_multiply_103 : decode cX9_multiply 103 = Except.ok (Instr.aload_n 2, 1) := by decide +kernel
theorem dX9_multiply_104 : decode cX9_multiply 104 = Except.ok (Instr.iconst 0, 1) := by decide +kernel
theorem dX9_multiply_105 : decode cX9_multiply 105 = Except.ok (Instr.laload, 1) := by decide +kernel
theorem dX9_multiply_106 : decode cX9_multiply 106 = Except.ok (Instr.lmul, 1) := by decide +kernel
theorem dX9_multiply_107 : decode cX9_multiply 107 = Except.ok (Instr.ladd, 1) := by decide +kernel
theorem dX9_multiply_108 : decode cX9_multiply 108 = Except.ok (Instr.aload_n 1, 1) := by decide +kernel
theorem dX9_multiply_109 : decode cX9_multiply 109 = Except.ok (Instr.iconst 3, 1) := by decide +kernel
theorem dX9_multiply_110 : decode cX9_multiply 110 = Except.ok (Instr.laload, 1) := by decide +kernel
theorem dX9_multiply_111 : decode cX9_multiply 111 = Except.ok (Instr.aload_n 2, 1) := by decide +kernel
theorem dX9_multiply_112 : decode cX9_multiply 112 = Except.ok (Instr.iconst 1, 1) := by decide +kernel
theorem dX9_multiply_113 : decode cX9_multiply 113 = Except.ok (Instr.laload, 1) := by decide +kernel
theorem dX9_multiply_114 : decode cX9_multiply 114 = Except.ok (Instr.lmul, 1) := by decide +kernel
theorem dX9_multiply_115 : decode cX9_multiply 115 = Except.ok (Instr.ladd, 1) := by decide +kernel
theorem dX9_multiply_116 : decode cX9_multiply 116 = Except.ok (Instr.bipush 28, 2) := by decide +kernel
theorem dX9_multiply_118 : decode cX9_multiply 118 = Except.ok (Instr.lshr, 1) := by decide +kernel
theorem dX9_multiply_119 : decode cX9_multiply 119 = Except.ok (Instr.lastore, 1) := by decide +kernel
theorem dX9_multiply_120 : decode cX9_multiply 120 = Except.ok (Instr.aload_n 0, 1) := by decide +kernel
theorem dX9_multiply_121 : decode cX9_multiply 121 = Except.ok (Instr.getfield 19, 3) := by decide +kernel
theorem dX9_multiply_124 : decode cX9_multiply 124 = Except.ok (Instr.iconst 3, 1) := by decide +kernel
theorem dX9_multiply_125 : decode cX9_multiply 125 = Except.ok (Instr.aload_n 1, 1) := by decide +kernel
theorem dX9_multiply_126 : decode cX9_multiply 126 = Except.ok (Instr.iconst 0, 1) := by decide +kernel
theorem dX9_multiply_127 : decode cX9_multiply 127 = Except.ok (Instr.laload, 1) := by decide +kernel
theorem dX9_multiply_128 : decode cX9_multiply 128 = Except.ok (Instr.aload_n 2, 1) := by decide +kernel
theorem dX9_multiply_129 : decode cX9_multiply 129 = Except.ok (Instr.iconst 3, 1) := by decide +kernel
theorem dX9_multiply_130 : decode cX9_multiply 130 = Except.ok (Instr.laload, 1) := by decide +kernel
theorem dX9_multiply_131 : decode cX9_multiply 131 = Except.ok (Instr.lmul, 1) := by decide +kernel
theorem dX9_multiply_132 : decode cX9_multiply 132 = Except.ok (Instr.aload_n 1, 1) := by decide +kernel
theorem dX9_multiply_133 : decode cX9_multiply 133 = Except.ok (Instr.iconst 1, 1) := by decide +kernel
theorem dX9_multiply_134 : decode cX9_multiply 134 = Except.ok (Instr.laload, 1) := by decide +kernel
theorem dX9_multiply_135 : decode cX9_multiply 135 = Except.ok (Instr.aload_n 2, 1) := by decide +kernel
theorem dX9_multiply_136 : decode cX9_multiply 136 = Except.ok (Instr.iconst 2, 1) := by decide +kernel
theorem dX9_multiply_137 : decode cX9_multiply 137 = Except.ok (Instr.laload, 1) := by decide +kernel
theorem dX9_multiply_138 : decode cX9_multiply 138 = Except.ok (Instr.lmul, 1) := by decide +kernel
theorem dX9_multiply_139 : decode cX9_multiply 139 = Except.ok (Instr.ladd, 1) := by decide +kernel
theorem dX9_multiply_140 : decode cX9_multiply 140 = Except.ok (Instr.aload_n 1, 1) := by decide +kernel
theorem dX9_multiply_141 : decode cX9_multiply 141 = Except.ok (Instr.iconst 2, 1) := by decide +kernel
theorem dX9_multiply_142 : decode cX9_multiply 142 = Except.ok (Instr.laload, 1) := by decide +kernel
theorem dX9_multiply_143 : decode cX9_multiply 143 = Except.ok (Instr.aload_n 2, 1) := by decide +kernel
theorem dX9_multiply_144 : decode cX9_multiply 144 = Except.ok (Instr.iconst 1, 1) := by decide +kernel
theorem dX9_multiply_145 : decode cX9_multiply 145 = Except.ok (Instr.laload, 1) := by decide +kernel
theorem dX9_multiply_146 : decode cX9_multiply 146 = Except.ok (Instr.lmul, 1) := by decide +kernel
theorem dX9_multiply_147 : decode cX9_multiply 147 = Except.ok (Instr.lsub, 1) := by decide +kernel
theorem dX9_multiply_148 : decode cX9_multiply 148 = Except.ok (Instr.aload_n 1, 1) := by decide +kernel
theorem dX9_multiply_149 : decode cX9_multiply 149 = Except.ok (Instr.iconst 3, 1) := by decide +kernel
theorem dX9_multiply_150 : decode cX9_multiply 150 = Except.ok (Instr.laload, 1) := by decide +kernel
theorem dX9_multiply_151 : decode cX9_multiply 151 = Except.ok (Instr.aload_n 2, 1) := by decide +kernel
theorem dX9_multiply_152 : decode cX9_multiply 152 = Except.ok (Instr.iconst 0, 1) := by decide +kernel
theorem dX9_multiply_153 : decode cX9_multiply 153 = Except.ok (Instr.laload, 1) := by decide +kernel
theorem dX9_multiply_154 : decode cX9_multiply 154 = Except.ok (Instr.lmul, 1) := by decide +kernel
theorem dX9_multiply_155 : decode cX9_multiply 155 = Except.ok (Instr.ladd, 1) := by decide +kernel
theorem dX9_multiply_156 : decode cX9_multiply 156 = Except.ok (Instr.bipush 28, 2) := by decide +kernel
theorem dX9_multiply_158 : decode cX9_multiply 158 = Except.ok (Instr.lshr, 1) := by decide +kernel
theorem dX9_multiply_159 : decode cX9_multiply 159 = Except.ok (Instr.lastore, 1) := by decide +kernel
theorem dX9_multiply_160 : decode cX9_multiply 160 = Except.ok (Instr.return_, 1) := by decide +kernel
theorem dX9_laysMatrix_0 : decode cX9_laysMatrix 0 = Except.ok (Instr.aload_n 1, 1) := by decide +kernel
theorem dX9_laysMatrix_1 : decode cX9_laysMatrix 1 = Except.ok (Instr.iconst 0, 1) := by decide +kernel
theorem dX9_laysMatrix_2 : decode cX9_laysMatrix 2 = Except.ok (Instr.laload, 1) := by decide +kernel
theorem dX9_laysMatrix_3 : decode cX9_laysMatrix 3 = Except.ok (Instr.lstore_n 2, 1) := by decide +kernel
theorem dX9_laysMatrix_4 : decode cX9_laysMatrix 4 = Except.ok (Instr.aload_n 1, 1) := by decide +kernel
theorem dX9_laysMatrix_5 : decode cX9_laysMatrix 5 = Except.ok (Instr.iconst 1, 1) := by decide +kernel
theorem dX9_laysMatrix_6 : decode cX9_laysMatrix 6 = Except.ok (Instr.laload, 1) := by decide +kernel
theorem dX9_laysMatrix_7 : decode cX9_laysMatrix 7 = Except.ok (Instr.lstore 4, 2) := by decide +kernel
theorem dX9_laysMatrix_9 : decode cX9_laysMatrix 9 = Except.ok (Instr.aload_n 1, 1) := by decide +kernel
theorem dX9_laysMatrix_10 : decode cX9_laysMatrix 10 = Except.ok (Instr.iconst 2, 1) := by decide +kernel
theorem dX9_laysMatrix_11 : decode cX9_laysMatrix 11 = Except.ok (Instr.laload, 1) := by decide +kernel
theorem dX9_laysMatrix_12 : decode cX9_laysMatrix 12 = Except.ok (Instr.lstore 6, 2) := by decide +kernel
theorem dX9_laysMatrix_14 : decode cX9_laysMatrix 14 = Except.ok (Instr.aload_n 1, 1) := by decide +kernel
theorem dX9_laysMatrix_15 : decode cX9_laysMatrix 15 = Except.ok (Instr.iconst 3, 1) := by decide +kernel
theorem dX9_laysMatrix_16 : decode cX9_laysMatrix 16 = Except.ok (Instr.laload, 1) := by decide +kernel
theorem dX9_laysMatrix_17 : decode cX9_laysMatrix 17 = Except.ok (Instr.lstore 8, 2) := by decide +kernel
theorem dX9_laysMatrix_19 : decode cX9_laysMatrix 19 = Except.ok (Instr.aload_n 0, 1) := by decide +kernel
theorem dX9_laysMatrix_20 : decode cX9_laysMatrix 20 = Except.ok (Instr.getfield 22, 3) := by decide +kernel
theorem dX9_laysMatrix_23 : decode cX9_laysMatrix 23 = Except.ok (Instr.iconst 0, 1) := by decide +kernel
theorem dX9_laysMatrix_24 : decode cX9_laysMatrix 24 = Except.ok (Instr.ldc2_w 113, 3) := by decide +kernel
theorem dX9_laysMatrix_27 : decode cX9_laysMatrix 27 = Except.ok (Instr.ldc2_w 105, 3) := by decide +kernel
theorem dX9_laysMatrix_30 : decode cX9_laysMatrix 30 = Except.ok (Instr.lload 6, 2) := by decide +kernel
theorem dX9_laysMatrix_32 : decode cX9_laysMatrix 32 = Except.ok (Instr.lload 6, 2) := by decide +kernel
theorem dX9_laysMatrix_34 : decode cX9_laysMatrix 34 = Except.ok (Instr.lmul, 1) := by decide +kernel
theorem dX9_laysMatrix_35 : decode cX9_laysMatrix 35 = Except.ok (Instr.lload 8, 2) := by decide +kernel
theorem dX9_laysMatrix_37 : decode cX9_laysMatrix 37 = Except.ok (Instr.lload 8, 2) := by decide +kernel
theorem dX9_laysMatrix_39 : decode cX9_laysMatrix 39 = Except.ok (Instr.lmul, 1) := by decide +kernel
theorem dX9_laysMatrix_40 : decode cX9_laysMatrix 40 = Except.ok (Instr.ladd, 1) := by decide +kernel
theorem dX9_laysMatrix_41 : decode cX9_laysMatrix 41 = Except.ok (Instr.bipush 28, 2) := by decide +kernel
theorem dX9_laysMatrix_43 : decode cX9_laysMatrix 43 = Except.ok (Instr.lshr, 1) := by decide +kernel
theorem dX9_laysMatrix_44 : decode cX9_laysMatrix 44 = Except.ok (Instr.lmul, 1) := by decide +kernel
theorem dX9_laysMatrix_45 : decode cX9_laysMatrix 45 = Except.ok (Instr.lsub, 1) := by decide +kernel
theorem dX9_laysMatrix_46 : decode cX9_laysMatrix 46 = Except.ok (Instr.lastore, 1) := by decide +kernel
theorem dX9_laysMatrix_47 : decode cX9_laysMatrix 47 = Except.ok (Instr.aload_n 0, 1) := by decide +kernel
theorem dX9_laysMatrix_48 : decode cX9_laysMatrix 48 = Except.ok (Instr.getfield 22, 3) := by decide +kernel
theorem dX9_laysMatrix_51 : decode cX9_laysMatrix 51 = Except.ok (Instr.iconst 1, 1) := by decide +kernel
theorem dX9_laysMatrix_52 : decode cX9_laysMatrix 52 = Except.ok (Instr.ldc2_w 105, 3) := by decide +kernel
theorem dX9_laysMatrix_55 : decode cX9_laysMatrix 55 = Except.ok (Instr.lload 4, 2) := by decide +kernel
theorem dX9_laysMatrix_57 : decode cX9_laysMatrix 57 = Except.ok (Instr.lload 6, 2) := by decide +kernel
theorem dX9_laysMatrix_59 : decode cX9_laysMatrix 59 = Except.ok (Instr.lmul, 1) := by decide +kernel
theorem dX9_laysMatrix_60 : decode cX9_laysMatrix 60 = Except.ok (Instr.lload_n 2, 1) := by decide +kernel
theorem dX9_laysMatrix_61 : decode cX9_laysMatrix 61 = Except.ok (Instr.lload 8, 2) := by decide +kernel
theorem dX9_laysMatrix_63 : decode cX9_laysMatrix 63 = Except.ok (Instr.lmul, 1) := by decide +kernel
theorem dX9_laysMatrix_64 : decode cX9_laysMatrix 64 = Except.ok (Instr.lsub, 1) := by decide +kernel
theorem dX9_laysMatrix_65 : decode cX9_laysMatrix 65 = Except.ok (Instr.bipush 28, 2) := by decide +kernel
theorem dX9_laysMatrix_67 : decode cX9_laysMatrix 67 = Except.ok (Instr.lshr, 1) := by decide +kernel
theorem dX9_laysMatrix_68 : decode cX9_laysMatrix 68 = Except.ok (Instr.lmul, 1) := by decide +kernel
theorem dX9_laysMatrix_69 : decode cX9_laysMatrix 69 = Except.ok (Instr.lastore, 1) := by decide +kernel
theorem dX9_laysMatrix_70 : decode cX9_laysMatrix 70 = Except.ok (Instr.aload_n 0, 1) := by decide +kernel
theorem dX9_laysMatrix_71 : decode cX9_laysMatrix 71 = Except.ok (Instr.getfield 22, 3) := by decide +kernel
theorem dX9_laysMatrix_74 : decode cX9_laysMatrix 74 = Except.ok (Instr.iconst 2, 1) := by decide +kernel
theorem dX9_laysMatrix_75 : decode cX9_laysMatrix 75 = Except.ok (Instr.ldc2_w 105, 3) := by decide +kernel
theorem dX9_laysMatrix_78 : decode cX9_laysMatrix 78 = Except.ok (Instr.lload 4, 2) := by decide +kernel
theorem dX9_laysMatrix_80 : decode cX9_laysMatrix 80 = Except.ok (Instr.lload 8, 2) := by decide +kernel
theorem dX9_laysMatrix_82 : decode cX9_laysMatrix 82 = Except.ok (Instr.lmul, 1) := by decide +kernel
theorem dX9_laysMatrix_83 : decode cX9_laysMatrix 83 = Except.ok (Instr.lload_n 2, 1) := by decide +kernel
theorem dX9_laysMatrix_84 : decode cX9_laysMatrix 84 = Except.ok (Instr.lload 6, 2) := by decide +kernel
theorem dX9_laysMatrix_86 : decode cX9_laysMatrix 86 = Except.ok (Instr.lmul, 1) := by decide +kernel
theorem dX9_laysMatrix_87 : decode cX9_laysMatrix 87 = Except.ok (Instr.ladd, 1) := by decide +kernel
theorem dX9_laysMatrix_88 : decode cX9_laysMatrix 88 = Except.ok (Instr.bipush 28, 2) := by decide +kernel
theorem dX9_laysMatrix_90 : decode cX9_laysMatrix 90 = Except.ok (Instr.lshr, 1) := by decide +kernel
theorem dX9_laysMatrix_91 : decode cX9_laysMatrix 91 = Except.ok (Instr.lmul, 1) := by decide +kernel
theorem dX9_laysMatrix_92 : decode cX9_laysMatrix 92 = Except.ok (Instr.lastore, 1) := by decide +kernel
theorem dX9_laysMatrix_93 : decode cX9_laysMatrix 93 = Except.ok (Instr.aload_n 0, 1) := by decide +kernel
theorem dX9_laysMatrix_94 : decode cX9_laysMatrix 94 = Except.ok (Instr.getfield 22, 3) := by decide +kernel
theorem dX9_laysMatrix_97 : decode cX9_laysMatrix 97 = Except.ok (Instr.iconst 3, 1) := by decide +kernel
theorem dX9_laysMatrix_98 : decode cX9_laysMatrix 98 = Except.ok (Instr.ldc2_w 105, 3) := by decide +kernel
theorem dX9_laysMatrix_101 : decode cX9_laysMatrix 101 = Except.ok (Instr.lload 4, 2) := by decide +kernel
theorem dX9_laysMatrix_103 : decode cX9_laysMatrix 103 = Except.ok (Instr.lload 6, 2) := by decide +kernel
theorem dX9_laysMatrix_105 : decode cX9_laysMatrix 105 = Except.ok (Instr.lmul, 1) := by decide +kernel
theorem dX9_laysMatrix_106 : decode cX9_laysMatrix 106 = Except.ok (Instr.lload_n 2, 1) := by decide +kernel
theorem dX9_laysMatrix_107 : decode cX9_laysMatrix 107 = Except.ok (Instr.lload 8, 2) := by decide +kernel
theorem dX9_laysMatrix_109 : decode cX9_laysMatrix 109 = Except.ok (Instr.lmul, 1) := by decide +kernel
theorem dX9_laysMatrix_110 : decode cX9_laysMatrix 110 = Except.ok (Instr.ladd, 1) := by decide +kernel
theorem dX9_laysMatrix_111 : decode cX9_laysMatrix 111 = Except.ok (Instr.bipush 28, 2) := by decide +kernel
theorem dX9_laysMatrix_113 : decode cX9_laysMatrix 113 = Except.ok (Instr.lshr, 1) := by decide +kernel
theorem dX9_laysMatrix_114 : decode cX9_laysMatrix 114 = Except.ok (Instr.lmul, 1) := by decide +kernel
theorem dX9_laysMatrix_115 : decode cX9_laysMatrix 115 = Except.ok (Instr.lastore, 1) := by decide +kernel
theorem dX9_laysMatrix_116 : decode cX9_laysMatrix 116 = Except.ok (Instr.aload_n 0, 1) := by decide +kernel
theorem dX9_laysMatrix_117 : decode cX9_laysMatrix 117 = Except.ok (Instr.getfield 22, 3) := by decide +kernel
theorem dX9_laysMatrix_120 : decode cX9_laysMatrix 120 = Except.ok (Instr.iconst 4, 1) := by decide +kernel
theorem dX9_laysMatrix_121 : decode cX9_laysMatrix 121 = Except.ok (Instr.ldc2_w 113, 3) := by decide +kernel
theorem dX9_laysMatrix_124 : decode cX9_laysMatrix 124 = Except.ok (Instr.ldc2_w 105, 3) := by decide +kernel
theorem dX9_laysMatrix_127 : decode cX9_laysMatrix 127 = Except.ok (Instr.lload 4, 2) := by decide +kernel
theorem dX9_laysMatrix_129 : decode cX9_laysMatrix 129 = Except.ok (Instr.lload 4, 2) := by decide +kernel
theorem dX9_laysMatrix_131 : decode cX9_laysMatrix 131 = Except.ok (Instr.lmul, 1) := by decide +kernel
theorem dX9_laysMatrix_132 : decode cX9_laysMatrix 132 = Except.ok (Instr.lload 8, 2) := by decide +kernel
theorem dX9_laysMatrix_134 : decode cX9_laysMatrix 134 = Except.ok (Instr.lload 8, 2) := by decide +kernel
theorem dX9_laysMatrix_136 : decode cX9_laysMatrix 136 = Except.ok (Instr.lmul, 1) := by decide +kernel
theorem dX9_laysMatrix_137 : decode cX9_laysMatrix 137 = Except.ok (Instr.ladd, 1) := by decide +kernel
theorem dX9_laysMatrix_138 : decode cX9_laysMatrix 138 = Except.ok (Instr.bipush 28, 2) := by decide +kernel
theorem dX9_laysMatrix_140 : decode cX9_laysMatrix 140 = Except.ok (Instr.lshr, 1) := by decide +kernel
theorem dX9_laysMatrix_141 : decode cX9_laysMatrix 141 = Except.ok (Instr.lmul, 1) := by decide +kernel
theorem dX9_laysMatrix_142 : decode cX9_laysMatrix 142 = Except.ok (Instr.lsub, 1) := by decide +kernel
theorem dX9_laysMatrix_143 : decode cX9_laysMatrix 143 = Except.ok (Instr.lastore, 1) := by decide +kernel
theorem dX9_laysMatrix_144 : decode cX9_laysMatrix 144 = Except.ok (Instr.aload_n 0, 1) := by decide +kernel
theorem dX9_laysMatrix_145 : decode cX9_laysMatrix 145 = Except.ok (Instr.getfield 22, 3) := by decide +kernel
theorem dX9_laysMatrix_148 : decode cX9_laysMatrix 148 = Except.ok (Instr.iconst 5, 1) := by decide +kernel
theorem dX9_laysMatrix_149 : decode cX9_laysMatrix 149 = Except.ok (Instr.ldc2_w 105, 3) := by decide +kernel
theorem dX9_laysMatrix_152 : decode cX9_laysMatrix 152 = Except.ok (Instr.lload 6, 2) := by decide +kernel
theorem dX9_laysMatrix_154 : decode cX9_laysMatrix 154 = Except.ok (Instr.lload 8, 2) := by decide +kernel
theorem dX9_laysMatrix_156 : decode cX9_laysMatrix 156 = Except.ok (Instr.lmul, 1) := by decide +kernel
theorem dX9_laysMatrix_157 : decode cX9_laysMatrix 157 = Except.ok (Instr.lload_n 2, 1) := by decide +kernel
theorem dX9_laysMatrix_158 : decode cX9_laysMatrix 158 = Except.ok (Instr.lload 4, 2) := by decide +kernel
theorem dX9_laysMatrix_160 : decode cX9_laysMatrix 160 = Except.ok (Instr.lmul, 1) := by decide +kernel
theorem dX9_laysMatrix_161 : decode cX9_laysMatrix 161 = Except.ok (Instr.lsub, 1) := by decide +kernel
theorem dX9_laysMatrix_162 : decode cX9_laysMatrix 162 = Except.ok (Instr.bipush 28, 2) := by decide +kernel
theorem dX9_laysMatrix_164 : decode cX9_laysMatrix 164 = Except.ok (Instr.lshr, 1) := by decide +kernel
theorem dX9_laysMatrix_165 : decode cX9_laysMatrix 165 = Except.ok (Instr.lmul, 1) := by decide +kernel
theorem dX9_laysMatrix_166 : decode cX9_laysMatrix 166 = Except.ok (Instr.lastore, 1) := by decide +kernel
theorem dX9_laysMatrix_167 : decode cX9_laysMatrix 167 = Except.ok (Instr.aload_n 0, 1) := by decide +kernel
theorem dX9_laysMatrix_168 : decode cX9_laysMatrix 168 = Except.ok (Instr.getfield 22, 3) := by decide +kernel
theorem dX9_laysMatrix_171 : decode cX9_laysMatrix 171 = Except.ok (Instr.bipush 6, 2) := by decide +kernel
theorem dX9_laysMatrix_173 : decode cX9_laysMatrix 173 = Except.ok (Instr.ldc2_w 105, 3) := by decide +kernel
theorem dX9_laysMatrix_176 : decode cX9_laysMatrix 176 = Except.ok (Instr.lload 4, 2) := by decide +kernel
theorem dX9_laysMatrix_178 : decode cX9_laysMatrix 178 = Except.ok (Instr.lload 8, 2) := by decide +kernel
theorem dX9_laysMatrix_180 : decode cX9_laysMatrix 180 = Except.ok (Instr.lmul, 1) := by decide +kernel
theorem dX9_laysMatrix_181 : decode cX9_laysMatrix 181 = Except.ok (Instr.lload_n 2, 1) := by decide +kernel
theorem dX9_laysMatrix_182 : decode cX9_laysMatrix 182 = Except.ok (Instr.lload 6, 2) := by decide +kernel
theorem dX9_laysMatrix_184 : decode cX9_laysMatrix 184 = Except.ok (Instr.lmul, 1) := by decide +kernel
theorem dX9_laysMatrix_185 : decode cX9_laysMatrix 185 = Except.ok (Instr.lsub, 1) := by decide +kernel
theorem dX9_laysMatrix_186 : decode cX9_laysMatrix 186 = Except.ok (Instr.bipush 28, 2) := by decide +kernel
theorem dX9_laysMatrix_188 : decode cX9_laysMatrix 188 = Except.ok (Instr.lshr, 1) := by decide +kernel
theorem dX9_laysMatrix_189 : decode cX9_laysMatrix 189 = Except.ok (Instr.lmul, 1) := by decide +kernel
theorem dX9_laysMatrix_190 : decode cX9_laysMatrix 190 = Except.ok (Instr.lastore, 1) := by decide +kernel
theorem dX9_laysMatrix_191 : decode cX9_laysMatrix 191 = Except.ok (Instr.aload_n 0, 1) := by decide +kernel
theorem dX9_laysMatrix_192 : decode cX9_laysMatrix 192 = Except.ok (Instr.getfield 22, 3) := by decide +kernel
theorem dX9_laysMatrix_195 : decode cX9_laysMatrix 195 = Except.ok (Instr.bipush 7, 2) := by decide +kernel
theorem dX9_laysMatrix_197 : decode cX9_laysMatrix 197 = Except.ok (Instr.ldc2_w 105, 3) := by decide +kernel
theorem dX9_laysMatrix_200 : decode cX9_laysMatrix 200 = Except.ok (Instr.lload 6, 2) := by decide +kernel
theorem dX9_laysMatrix_202 : decode cX9_laysMatrix 202 = Except.ok (Instr.lload 8, 2) := by decide +kernel
theorem dX9_laysMatrix_204 : decode cX9_laysMatrix 204 = Except.ok (Instr.lmul, 1) := by decide +kernel
theorem dX9_laysMatrix_205 : decode cX9_laysMatrix 205 = Except.ok (Instr.lload_n 2, 1) := by decide +kernel
theorem dX9_laysMatrix_206 : decode cX9_laysMatrix 206 = Except.ok (Instr.lload 4, 2) := by decide +kernel
theorem dX9_laysMatrix_208 : decode cX9_laysMatrix 208 = Except.ok (Instr.lmul, 1) := by decide +kernel
theorem dX9_laysMatrix_209 : decode cX9_laysMatrix 209 = Except.ok (Instr.ladd, 1) := by decide +kernel
theorem dX9_laysMatrix_210 : decode cX9_laysMatrix 210 = Except.ok (Instr.bipush 28, 2) := by decide +kernel
theorem dX9_laysMatrix_212 : decode cX9_laysMatrix 212 = Except.ok (Instr.lshr, 1) := by decide +kernel
theorem dX9_laysMatrix_213 : decode cX9_laysMatrix 213 = Except.ok (Instr.lmul, 1) := by decide +kernel
theorem dX9_laysMatrix_214 : decode cX9_laysMatrix 214 = Except.ok (Instr.lastore, 1) := by decide +kernel
theorem dX9_laysMatrix_215 : decode cX9_laysMatrix 215 = Except.ok (Instr.aload_n 0, 1) := by decide +kernel
theorem dX9_laysMatrix_216 : decode cX9_laysMatrix 216 = Except.ok (Instr.getfield 22, 3) := by decide +kernel
theorem dX9_laysMatrix_219 : decode cX9_laysMatrix 219 = Except.ok (Instr.bipush 8, 2) := by decide +kernel
theorem dX9_laysMatrix_221 : decode cX9_laysMatrix 221 = Except.ok (Instr.ldc2_w 113, 3) := by decide +kernel
theorem dX9_laysMatrix_224 : decode cX9_laysMatrix 224 = Except.ok (Instr.ldc2_w 105, 3) := by decide +kernel
theorem dX9_laysMatrix_227 : decode cX9_laysMatrix 227 = Except.ok (Instr.lload 4, 2) := by decide +kernel
theorem dX9_laysMatrix_229 : decode cX9_laysMatrix 229 = Except.ok (Instr.lload 4, 2) := by decide +kernel
theorem dX9_laysMatrix_231 : decode cX9_laysMatrix 231 = Except.ok (Instr.lmul, 1) := by decide +kernel
theorem dX9_laysMatrix_232 : decode cX9_laysMatrix 232 = Except.ok (Instr.lload 6, 2) := by decide +kernel
theorem dX9_laysMatrix_234 : decode cX9_laysMatrix 234 = Except.ok (Instr.lload 6, 2) := by decide +kernel
theorem dX9_laysMatrix_236 : decode cX9_laysMatrix 236 = Except.ok (Instr.lmul, 1) := by decide +kernel
theorem dX9_laysMatrix_237 : decode cX9_laysMatrix 237 = Except.ok (Instr.ladd, 1) := by decide +kernel
theorem dX9_laysMatrix_238 : decode cX9_laysMatrix 238 = Except.ok (Instr.bipush 28, 2) := by decide +kernel
theorem dX9_laysMatrix_240 : decode cX9_laysMatrix 240 = Except.ok (Instr.lshr, 1) := by decide +kernel
theorem dX9_laysMatrix_241 : decode cX9_laysMatrix 241 = Except.ok (Instr.lmul, 1) := by decide +kernel
theorem dX9_laysMatrix_242 : decode cX9_laysMatrix 242 = Except.ok (Instr.lsub, 1) := by decide +kernel
theorem dX9_laysMatrix_243 : decode cX9_laysMatrix 243 = Except.ok (Instr.lastore, 1) := by decide +kernel
theorem dX9_laysMatrix_244 : decode cX9_laysMatrix 244 = Except.ok (Instr.return_, 1) := by decide +kernel
theorem dX9_laysBody_0 : decode cX9_laysBody 0 = Except.ok (Instr.aload_n 0, 1) := by decide +kernel
theorem dX9_laysBody_1 : decode cX9_laysBody 1 = Except.ok (Instr.aload_n 1, 1) := by decide +kernel
theorem dX9_laysBody_2 : decode cX9_laysBody 2 = Except.ok (Instr.invokevirtual 115, 3) := by decide +kernel
theorem dX9_laysBody_5 : decode cX9_laysBody 5 = Except.ok (Instr.iconst 0, 1) := by decide +kernel
theorem dX9_laysBody_6 : decode cX9_laysBody 6 = Except.ok (Instr.istore 8, 2) := by decide +kernel
theorem dX9_laysBody_8 : decode cX9_laysBody 8 = Except.ok (Instr.iload 8, 2) := by decide +kernel
theorem dX9_laysBody_10 : decode cX9_laysBody 10 = Except.ok (Instr.iconst 3, 1) := by decide +kernel
theorem dX9_laysBody_11 : decode cX9_laysBody 11 = Except.ok (Instr.if_icmp .ge 55, 3) := by decide +kernel
theorem dX9_laysBody_14 : decode cX9_laysBody 14 = Except.ok (Instr.aload_n 0, 1) := by decide +kernel
theorem dX9_laysBody_15 : decode cX9_laysBody 15 = Except.ok (Instr.getfield 25, 3) := by decide +kernel
theorem dX9_laysBody_18 : decode cX9_laysBody 18 = Except.ok (Instr.iload 8, 2) := by decide +kernel
theorem dX9_laysBody_20 : decode cX9_laysBody 20 = Except.ok (Instr.aload_n 0, 1) := by decide +kernel
theorem dX9_laysBody_21 : decode cX9_laysBody 21 = Except.ok (Instr.getfield 22, 3) := by decide +kernel
theorem dX9_laysBody_24 : decode cX9_laysBody 24 = Except.ok (Instr.iload 8, 2) := by decide +kernel
theorem dX9_laysBody_26 : decode cX9_laysBody 26 = Except.ok (Instr.laload, 1) := by decide +kernel
theorem dX9_laysBody_27 : decode cX9_laysBody 27 = Except.ok (Instr.lload_n 2, 1) := by decide +kernel
theorem dX9_laysBody_28 : decode cX9_laysBody 28 = Except.ok (Instr.lmul, 1) := by decide +kernel
theorem dX9_laysBody_29 : decode cX9_laysBody 29 = Except.ok (Instr.aload_n 0, 1) := by decide +kernel
theorem dX9_laysBody_30 : decode cX9_laysBody 30 = Except.ok (Instr.getfield 22, 3) := by decide +kernel
theorem dX9_laysBody_33 : decode cX9_laysBody 33 = Except.ok (Instr.iconst 3, 1) := by decide +kernel
theorem dX9_laysBody_34 : decode cX9_laysBody 34 = Except.ok (Instr.iload 8, 2) := by decide +kernel
theorem dX9_laysBody_36 : decode cX9_laysBody 36 = Except.ok (Instr.iadd, 1) := by decide +kernel
theorem dX9_laysBody_37 : decode cX9_laysBody 37 = Except.ok (Instr.laload, 1) := by decide +kernel
theorem dX9_laysBody_38 : decode cX9_laysBody 38 = Except.ok (Instr.lload 4, 2) := by decide +kernel
theorem dX9_laysBody_40 : decode cX9_laysBody 40 = Except.ok (Instr.lmul, 1) := by decide +kernel
theorem dX9_laysBody_41 : decode cX9_laysBody 41 = Except.ok (Instr.ladd, 1) := by decide +kernel
theorem dX9_laysBody_42 : decode cX9_laysBody 42 = Except.ok (Instr.aload_n 0, 1) := by decide +kernel
theorem dX9_laysBody_43 : decode cX9_laysBody 43 = Except.ok (Instr.getfield 22, 3) := by decide +kernel
theorem dX9_laysBody_46 : decode cX9_laysBody 46 = Except.ok (Instr.bipush 6, 2) := by decide +kernel
theorem dX9_laysBody_48 : decode cX9_laysBody 48 = Except.ok (Instr.iload 8, 2) := by decide +kernel
theorem dX9_laysBody_50 : decode cX9_laysBody 50 = Except.ok (Instr.iadd, 1) := by decide +kernel
theorem dX9_laysBody_51 : decode cX9_laysBody 51 = Except.ok (Instr.laload, 1) := by decide +kernel
theorem dX9_laysBody_52 : decode cX9_laysBody 52 = Except.ok (Instr.lload 6, 2) := by decide +kernel
theorem dX9_laysBody_54 : decode cX9_laysBody 54 = Except.ok (Instr.lmul, 1) := by decide +kernel
theorem dX9_laysBody_55 : decode cX9_laysBody 55 = Except.ok (Instr.ladd, 1) := by decide +kernel
theorem dX9_laysBody_56 : decode cX9_laysBody 56 = Except.ok (Instr.bipush 28, 2) := by decide +kernel
theorem dX9_laysBody_58 : decode cX9_laysBody 58 = Except.ok (Instr.lshr, 1) := by decide +kernel
theorem dX9_laysBody_59 : decode cX9_laysBody 59 = Except.ok (Instr.lastore, 1) := by decide +kernel
theorem dX9_laysBody_60 : decode cX9_laysBody 60 = Except.ok (Instr.iinc 8 1, 3) := by decide +kernel
theorem dX9_laysBody_63 : decode cX9_laysBody 63 = Except.ok (Instr.goto (-55), 3) := by decide +kernel
theorem dX9_laysBody_66 : decode cX9_laysBody 66 = Except.ok (Instr.return_, 1) := by decide +kernel
theorem dX9_laysEarth_0 : decode cX9_laysEarth 0 = Except.ok (Instr.aload_n 0, 1) := by decide +kernel
theorem dX9_laysEarth_1 : decode cX9_laysEarth 1 = Except.ok (Instr.aload_n 1, 1) := by decide +kernel
theorem dX9_laysEarth_2 : decode cX9_laysEarth 2 = Except.ok (Instr.aload_n 0, 1) := by decide +kernel
theorem dX9_laysEarth_3 : decode cX9_laysEarth 3 = Except.ok (Instr.getfield 119, 3) := by decide +kernel
theorem dX9_laysEarth_6 : decode cX9_laysEarth 6 = Except.ok (Instr.lconst 0, 1) := by decide +kernel
theorem dX9_laysEarth_7 : decode cX9_laysEarth 7 = Except.ok (Instr.aload_n 0, 1) := by decide +kernel
theorem dX9_laysEarth_8 : decode cX9_laysEarth 8 = Except.ok (Instr.getfield 123, 3) := by decide +kernel
theorem dX9_laysEarth_11 : decode cX9_laysEarth 11 = Except.ok (Instr.invokevirtual 126, 3) := by decide +kernel
theorem dX9_laysEarth_14 : decode cX9_laysEarth 14 = Except.ok (Instr.return_, 1) := by decide +kernel
theorem dX9_laysUp_0 : decode cX9_laysUp 0 = Except.ok (Instr.aload_n 0, 1) := by decide +kernel
theorem dX9_laysUp_1 : decode cX9_laysUp 1 = Except.ok (Instr.aload_n 1, 1) := by decide +kernel
theorem dX9_laysUp_2 : decode cX9_laysUp 2 = Except.ok (Instr.lconst 0, 1) := by decide +kernel
theorem dX9_laysUp_3 : decode cX9_laysUp 3 = Except.ok (Instr.lconst 0, 1) := by decide +kernel
theorem dX9_laysUp_4 : decode cX9_laysUp 4 = Except.ok (Instr.ldc2_w 130, 3) := by decide +kernel
theorem dX9_laysUp_7 : decode cX9_laysUp 7 = Except.ok (Instr.invokevirtual 126, 3) := by decide +kernel
theorem dX9_laysUp_10 : decode cX9_laysUp 10 = Except.ok (Instr.return_, 1) := by decide +kernel
theorem dX9_laysCross_0 : decode cX9_laysCross 0 = Except.ok (Instr.aload_n 0, 1) := by decide +kernel
theorem dX9_laysCross_1 : decode cX9_laysCross 1 = Except.ok (Instr.getfield 28, 3) := by decide +kernel
theorem dX9_laysCross_4 : decode cX9_laysCross 4 = Except.ok (Instr.iconst 0, 1) := by decide +kernel
theorem dX9_laysCross_5 : decode cX9_laysCross 5 = Except.ok (Instr.aload_n 1, 1) := by decide +kernel
theorem dX9_laysCross_6 : decode cX9_laysCross 6 = Except.ok (Instr.iconst 1, 1) := by decide +kernel
theorem dX9_laysCross_7 : decode cX9_laysCross 7 = Except.ok (Instr.laload, 1) := by decide +kernel
theorem dX9_laysCross_8 : decode cX9_laysCross 8 = Except.ok (Instr.aload_n 2, 1) := by decide +kernel
theorem dX9_laysCross_9 : decode cX9_laysCross 9 = Except.ok (Instr.iconst 2, 1) := by decide +kernel
theorem dX9_laysCross_10 : decode cX9_laysCross 10 = Except.ok (Instr.laload, 1) := by decide +kernel
theorem dX9_laysCross_11 : decode cX9_laysCross 11 = Except.ok (Instr.lmul, 1) := by decide +kernel
theorem dX9_laysCross_12 : decode cX9_laysCross 12 = Except.ok (Instr.aload_n 1, 1) := by decide +kernel
theorem dX9_laysCross_13 : decode cX9_laysCross 13 = Except.ok (Instr.iconst 2, 1) := by decide +kernel
theorem dX9_laysCross_14 : decode cX9_laysCross 14 = Except.ok (Instr.laload, 1) := by decide +kernel
theorem dX9_laysCross_15 : decode cX9_laysCross 15 = Except.ok (Instr.aload_n 2, 1) := by decide +kernel
theorem dX9_laysCross_16 : decode cX9_laysCross 16 = Except.ok (Instr.iconst 1, 1) := by decide +kernel
theorem dX9_laysCross_17 : decode cX9_laysCross 17 = Except.ok (Instr.laload, 1) := by decide +kernel
theorem dX9_laysCross_18 : decode cX9_laysCross 18 = Except.ok (Instr.lmul, 1) := by decide +kernel
theorem dX9_laysCross_19 : decode cX9_laysCross 19 = Except.ok (Instr.lsub, 1) := by decide +kernel
theorem dX9_laysCross_20 : decode cX9_laysCross 20 = Except.ok (Instr.lastore, 1) := by decide +kernel
theorem dX9_laysCross_21 : decode cX9_laysCross 21 = Except.ok (Instr.aload_n 0, 1) := by decide +kernel
theorem dX9_laysCross_22 : decode cX9_laysCross 22 = Except.ok (Instr.getfield 28, 3) := by decide +kernel
theorem dX9_laysCross_25 : decode cX9_laysCross 25 = Except.ok (Instr.iconst 1, 1) := by decide +kernel
theorem dX9_laysCross_26 : decode cX9_laysCross 26 = Except.ok (Instr.aload_n 1, 1) := by decide +kernel
theorem dX9_laysCross_27 : decode cX9_laysCross 27 = Except.ok (Instr.iconst 2, 1) := by decide +kernel
theorem dX9_laysCross_28 : decode cX9_laysCross 28 = Except.ok (Instr.laload, 1) := by decide +kernel
theorem dX9_laysCross_29 : decode cX9_laysCross 29 = Except.ok (Instr.aload_n 2, 1) := by decide +kernel
theorem dX9_laysCross_30 : decode cX9_laysCross 30 = Except.ok (Instr.iconst 0, 1) := by decide +kernel
theorem dX9_laysCross_31 : decode cX9_laysCross 31 = Except.ok (Instr.laload, 1) := by decide +kernel
theorem dX9_laysCross_32 : decode cX9_laysCross 32 = Except.ok (Instr.lmul, 1) := by decide +kernel
theorem dX9_laysCross_33 : decode cX9_laysCross 33 = Except.ok (Instr.aload_n 1, 1) := by decide +kernel
theorem dX9_laysCross_34 : decode cX9_laysCross 34 = Except.ok (Instr.iconst 0, 1) := by decide +kernel
theorem dX9_laysCross_35 : decode cX9_laysCross 35 = Except.ok (Instr.laload, 1) := by decide +kernel
theorem dX9_laysCross_36 : decode cX9_laysCross 36 = Except.ok (Instr.aload_n 2, 1) := by decide +kernel
theorem dX9_laysCross_37 : decode cX9_laysCross 37 = Except.ok (Instr.iconst 2, 1) := by decide +kernel
theorem dX9_laysCross_38 : decode cX9_laysCross 38 = Except.ok (Instr.laload, 1) := by decide +kernel
theorem dX9_laysCross_39 : decode cX9_laysCross 39 = Except.ok (Instr.lmul, 1) := by decide +kernel
theorem dX9_laysCross_40 : decode cX9_laysCross 40 = Except.ok (Instr.lsub, 1) := by decide +kernel
theorem dX9_laysCross_41 : decode cX9_laysCross 41 = Except.ok (Instr.lastore, 1) := by decide +kernel
theorem dX9_laysCross_42 : decode cX9_laysCross 42 = Except.ok (Instr.aload_n 0, 1) := by decide +kernel
theorem dX9_laysCross_43 : decode cX9_laysCross 43 = Except.ok (Instr.getfield 28, 3) := by decide +kernel
theorem dX9_laysCross_46 : decode cX9_laysCross 46 = Except.ok (Instr.iconst 2, 1) := by decide +kernel
theorem dX9_laysCross_47 : decode cX9_laysCross 47 = Except.ok (Instr.aload_n 1, 1) := by decide +kernel
theorem dX9_laysCross_48 : decode cX9_laysCross 48 = Except.ok (Instr.iconst 0, 1) := by decide +kernel
theorem dX9_laysCross_49 : decode cX9_laysCross 49 = Except.ok (Instr.laload, 1) := by decide +kernel
theorem dX9_laysCross_50 : decode cX9_laysCross 50 = Except.ok (Instr.aload_n 2, 1) := by decide +kernel
theorem dX9_laysCross_51 : decode cX9_laysCross 51 = Except.ok (Instr.iconst 1, 1) := by decide +kernel
theorem dX9_laysCross_52 : decode cX9_laysCross 52 = Except.ok (Instr.laload, 1) := by decide +kernel
theorem dX9_laysCross_53 : decode cX9_laysCross 53 = Except.ok (Instr.lmul, 1) := by decide +kernel
theorem dX9_laysCross_54 : decode cX9_laysCross 54 = Except.ok (Instr.aload_n 1, 1) := by decide +kernel
theorem dX9_laysCross_55 : decode cX9_laysCross 55 = Except.ok (Instr.iconst 1, 1) := by decide +kernel
theorem dX9_laysCross_56 : decode cX9_laysCross 56 = Except.ok (Instr.laload, 1) := by decide +kernel
theorem dX9_laysCross_57 : decode cX9_laysCross 57 = Except.ok (Instr.aload_n 2, 1) := by decide +kernel
theorem dX9_laysCross_58 : decode cX9_laysCross 58 = Except.ok (Instr.iconst 0, 1) := by decide +kernel
theorem dX9_laysCross_59 : decode cX9_laysCross 59 = Except.ok (Instr.laload, 1) := by decide +kernel
theorem dX9_laysCross_60 : decode cX9_laysCross 60 = Except.ok (Instr.lmul, 1) := by decide +kernel
theorem dX9_laysCross_61 : decode cX9_laysCross 61 = Except.ok (Instr.lsub, 1) := by decide +kernel
theorem dX9_laysCross_62 : decode cX9_laysCross 62 = Except.ok (Instr.lastore, 1) := by decide +kernel
theorem dX9_laysCross_63 : decode cX9_laysCross 63 = Except.ok (Instr.return_, 1) := by decide +kernel
theorem dX9_turn_0 : decode cX9_turn 0 = Except.ok (Instr.lload_n 2, 1) := by decide +kernel
theorem dX9_turn_1 : decode cX9_turn 1 = Except.ok (Instr.iconst 1, 1) := by decide +kernel
theorem dX9_turn_2 : decode cX9_turn 2 = Except.ok (Instr.lshr, 1) := by decide +kernel
theorem dX9_turn_3 : decode cX9_turn 3 = Except.ok (Instr.lstore 9, 2) := by decide +kernel
theorem dX9_turn_5 : decode cX9_turn 5 = Except.ok (Instr.lload 4, 2) := by decide +kernel
theorem dX9_turn_7 : decode cX9_turn 7 = Except.ok (Instr.iconst 1, 1) := by decide +kernel
theorem dX9_turn_8 : decode cX9_turn 8 = Except.ok (Instr.lshr, 1) := by decide +kernel
theorem dX9_turn_9 : decode cX9_turn 9 = Except.ok (Instr.lstore 11, 2) := by decide +kernel
theorem dX9_turn_11 : decode cX9_turn 11 = Except.ok (Instr.lload 6, 2) := by decide +kernel
theorem dX9_turn_13 : decode cX9_turn 13 = Except.ok (Instr.iconst 1, 1) := by decide +kernel
theorem dX9_turn_14 : decode cX9_turn 14 = Except.ok (Instr.lshr, 1) := by decide +kernel
theorem dX9_turn_15 : decode cX9_turn 15 = Except.ok (Instr.lstore 13, 2) := by decide +kernel
theorem dX9_turn_17 : decode cX9_turn 17 = Except.ok (Instr.lload 9, 2) := by decide +kernel
theorem dX9_turn_19 : decode cX9_turn 19 = Except.ok (Instr.lload 9, 2) := by decide +kernel
theorem dX9_turn_21 : decode cX9_turn 21 = Except.ok (Instr.lmul, 1) := by decide +kernel
theorem dX9_turn_22 : decode cX9_turn 22 = Except.ok (Instr.lload 11, 2) := by decide +kernel
theorem dX9_turn_24 : decode cX9_turn 24 = Except.ok (Instr.lload 11, 2) := by decide +kernel
theorem dX9_turn_26 : decode cX9_turn 26 = Except.ok (Instr.lmul, 1) := by decide +kernel
theorem dX9_turn_27 : decode cX9_turn 27 = Except.ok (Instr.ladd, 1) := by decide +kernel
theorem dX9_turn_28 : decode cX9_turn 28 = Except.ok (Instr.lload 13, 2) := by decide +kernel
theorem dX9_turn_30 : decode cX9_turn 30 = Except.ok (Instr.lload 13, 2) := by decide +kernel
theorem dX9_turn_32 : decode cX9_turn 32 = Except.ok (Instr.lmul, 1) := by decide +kernel
theorem dX9_turn_33 : decode cX9_turn 33 = Except.ok (Instr.ladd, 1) := by decide +kernel
theorem dX9_turn_34 : decode cX9_turn 34 = Except.ok (Instr.bipush 28, 2) := by decide +kernel
theorem dX9_turn_36 : decode cX9_turn 36 = Except.ok (Instr.lshr, 1) := by decide +kernel
theorem dX9_turn_37 : decode cX9_turn 37 = Except.ok (Instr.lstore 15, 2) := by decide +kernel
theorem dX9_turn_39 : decode cX9_turn 39 = Except.ok (Instr.iload 8, 2) := by decide +kernel
theorem dX9_turn_41 : decode cX9_turn 41 = Except.ok (Instr.ifCond .eq 9, 3) := by decide +kernel
theorem dX9_turn_44 : decode cX9_turn 44 = Except.ok (Instr.ldc2_w 113, 3) := by decide +kernel
theorem dX9_turn_47 : decode cX9_turn 47 = Except.ok (Instr.goto 11, 3) := by decide +kernel
theorem dX9_turn_50 : decode cX9_turn 50 = Except.ok (Instr.ldc2_w 113, 3) := by decide +kernel
theorem dX9_turn_53 : decode cX9_turn 53 = Except.ok (Instr.lload 15, 2) := by decide +kernel
theorem dX9_turn_55 : decode cX9_turn 55 = Except.ok (Instr.iconst 1, 1) := by decide +kernel
theorem dX9_turn_56 : decode cX9_turn 56 = Except.ok (Instr.lshr, 1) := by decide +kernel
theorem dX9_turn_57 : decode cX9_turn 57 = Except.ok (Instr.lsub, 1) := by decide +kernel
theorem dX9_turn_58 : decode cX9_turn 58 = Except.ok (Instr.lstore 17, 2) := by decide +kernel
theorem dX9_turn_60 : decode cX9_turn 60 = Except.ok (Instr.iload 8, 2) := by decide +kernel
theorem dX9_turn_62 : decode cX9_turn 62 = Except.ok (Instr.ifCond .eq 9, 3) := by decide +kernel
theorem dX9_turn_65 : decode cX9_turn 65 = Except.ok (Instr.ldc2_w 113, 3) := by decide +kernel
theorem dX9_turn_68 : decode cX9_turn 68 = Except.ok (Instr.goto 15, 3) := by decide +kernel
theorem dX9_turn_71 : decode cX9_turn 71 = Except.ok (Instr.ldc2_w 113, 3) := by decide +kernel
theorem dX9_turn_74 : decode cX9_turn 74 = Except.ok (Instr.lload 15, 2) := by decide +kernel
theorem dX9_turn_76 : decode cX9_turn 76 = Except.ok (Instr.ldc2_w 132, 3) := by decide +kernel
theorem dX9_turn_79 : decode cX9_turn 79 = Except.ok (Instr.invokestatic 134, 3) := by decide +kernel
theorem dX9_turn_82 : decode cX9_turn 82 = Except.ok (Instr.lsub, 1) := by decide +kernel
theorem dX9_turn_83 : decode cX9_turn 83 = Except.ok (Instr.lstore 19, 2) := by decide +kernel
theorem dX9_turn_85 : decode cX9_turn 85 = Except.ok (Instr.aload_n 0, 1) := by decide +kernel
theorem dX9_turn_86 : decode cX9_turn 86 = Except.ok (Instr.getfield 16, 3) := by decide +kernel
theorem dX9_turn_89 : decode cX9_turn 89 = Except.ok (Instr.iconst 0, 1) := by decide +kernel
theorem dX9_turn_90 : decode cX9_turn 90 = Except.ok (Instr.lload 17, 2) := by decide +kernel
theorem dX9_turn_92 : decode cX9_turn 92 = Except.ok (Instr.lastore, 1) := by decide +kernel
theorem dX9_turn_93 : decode cX9_turn 93 = Except.ok (Instr.aload_n 0, 1) := by decide +kernel
theorem dX9_turn_94 : decode cX9_turn 94 = Except.ok (Instr.getfield 16, 3) := by decide +kernel
theorem dX9_turn_97 : decode cX9_turn 97 = Except.ok (Instr.iconst 1, 1) := by decide +kernel
theorem dX9_turn_98 : decode cX9_turn 98 = Except.ok (Instr.lload 9, 2) := by decide +kernel
theorem dX9_turn_100 : decode cX9_turn 100 = Except.ok (Instr.lload 19, 2) := by decide +kernel
theorem dX9_turn_102 : decode cX9_turn 102 = Except.ok (Instr.lmul, 1) := by decide +kernel
theorem dX9_turn_103 : decode cX9_turn 103 = Except.ok (Instr.bipush 28, 2) := by decide +kernel
theorem dX9_turn_105 : decode cX9_turn 105 = Except.ok (Instr.lshr, 1) := by decide +kernel
theorem dX9_turn_106 : decode cX9_turn 106 = Except.ok (Instr.lastore, 1) := by decide +kernel
theorem dX9_turn_107 : decode cX9_turn 107 = Except.ok (Instr.aload_n 0, 1) := by decide +kernel
theorem dX9_turn_108 : decode cX9_turn 108 = Except.ok (Instr.getfield 16, 3) := by decide +kernel
theorem dX9_turn_111 : decode cX9_turn 111 = Except.ok (Instr.iconst 2, 1) := by decide +kernel
theorem dX9_turn_112 : decode cX9_turn 112 = Except.ok (Instr.lload 11, 2) := by decide +kernel
theorem dX9_turn_114 : decode cX9_turn 114 = Except.ok (Instr.lload 19, 2) := by decide +kernel
theorem dX9_turn_116 : decode cX9_turn 116 = Except.ok (Instr.lmul, 1) := by decide +kernel
theorem dX9_turn_117 : decode cX9_turn 117 = Except.ok (Instr.bipush 28, 2) := by decide +kernel
theorem dX9_turn_119 : decode cX9_turn 119 = Except.ok (Instr.lshr, 1) := by decide +kernel
theorem dX9_turn_120 : decode cX9_turn 120 = Except.ok (Instr.lastore, 1) := by decide +kernel
theorem dX9_turn_121 : decode cX9_turn 121 = Except.ok (Instr.aload_n 0, 1) := by decide +kernel
theorem dX9_turn_122 : decode cX9_turn 122 = Except.ok (Instr.getfield 16, 3) := by decide +kernel
theorem dX9_turn_125 : decode cX9_turn 125 = Except.ok (Instr.iconst 3, 1) := by decide +kernel
theorem dX9_turn_126 : decode cX9_turn 126 = Except.ok (Instr.lload 13, 2) := by decide +kernel
theorem dX9_turn_128 : decode cX9_turn 128 = Except.ok (Instr.lload 19, 2) := by decide +kernel
theorem dX9_turn_130 : decode cX9_turn 130 = Except.ok (Instr.lmul, 1) := by decide +kernel
theorem dX9_turn_131 : decode cX9_turn 131 = Except.ok (Instr.bipush 28, 2) := by decide +kernel
theorem dX9_turn_133 : decode cX9_turn 133 = Except.ok (Instr.lshr, 1) := by decide +kernel
theorem dX9_turn_134 : decode cX9_turn 134 = Except.ok (Instr.lastore, 1) := by decide +kernel
theorem dX9_turn_135 : decode cX9_turn 135 = Except.ok (Instr.aload_n 0, 1) := by decide +kernel
theorem dX9_turn_136 : decode cX9_turn 136 = Except.ok (Instr.aload_n 1, 1) := by decide +kernel
theorem dX9_turn_137 : decode cX9_turn 137 = Except.ok (Instr.aload_n 0, 1) := by decide +kernel
theorem dX9_turn_138 : decode cX9_turn 138 = Except.ok (Instr.getfield 16, 3) := by decide +kernel
theorem dX9_turn_141 : decode cX9_turn 141 = Except.ok (Instr.invokevirtual 138, 3) := by decide +kernel
theorem dX9_turn_144 : decode cX9_turn 144 = Except.ok (Instr.aload_n 0, 1) := by decide +kernel
theorem dX9_turn_145 : decode cX9_turn 145 = Except.ok (Instr.getfield 19, 3) := by decide +kernel
theorem dX9_turn_148 : decode cX9_turn 148 = Except.ok (Instr.iconst 0, 1) := by decide +kernel
theorem dX9_turn_149 : decode cX9_turn 149 = Except.ok (Instr.laload, 1) := by decide +kernel
theorem dX9_turn_150 : decode cX9_turn 150 = Except.ok (Instr.aload_n 0, 1) := by decide +kernel
theorem dX9_turn_151 : decode cX9_turn 151 = Except.ok (Instr.getfield 19, 3) := by decide +kernel
theorem dX9_turn_154 : decode cX9_turn 154 = Except.ok (Instr.iconst 0, 1) := by decide +kernel
theorem dX9_turn_155 : decode cX9_turn 155 = Except.ok (Instr.laload, 1) := by decide +kernel
theorem dX9_turn_156 : decode cX9_turn 156 = Except.ok (Instr.lmul, 1) := by decide +kernel
theorem dX9_turn_157 : decode cX9_turn 157 = Except.ok (Instr.aload_n 0, 1) := by decide +kernel
theorem dX9_turn_158 : decode cX9_turn 158 = Except.ok (Instr.getfield 19, 3) := by decide +kernel
theorem dX9_turn_161 : decode cX9_turn 161 = Except.ok (Instr.iconst 1, 1) := by decide +kernel
theorem dX9_turn_162 : decode cX9_turn 162 = Except.ok (Instr.laload, 1) := by decide +kernel
theorem dX9_turn_163 : decode cX9_turn 163 = Except.ok (Instr.aload_n 0, 1) := by decide +kernel
theorem dX9_turn_164 : decode cX9_turn 164 = Except.ok (Instr.getfield 19, 3) := by decide +kernel
theorem dX9_turn_167 : decode cX9_turn 167 = Except.ok (Instr.iconst 1, 1) := by decide +kernel
theorem dX9_turn_168 : decode cX9_turn 168 = Except.ok (Instr.laload, 1) := by decide +kernel
theorem dX9_turn_169 : decode cX9_turn 169 = Except.ok (Instr.lmul, 1) := by decide +kernel
theorem dX9_turn_170 : decode cX9_turn 170 = Except.ok (Instr.ladd, 1) := by decide +kernel
theorem dX9_turn_171 : decode cX9_turn 171 = Except.ok (Instr.aload_n 0, 1) := by decide +kernel
theorem dX9_turn_172 : decode cX9_turn 172 = Except.ok (Instr.getfield 19, 3) := by decide +kernel
theorem dX9_turn_175 : decode cX9_turn 175 = Except.ok (Instr.iconst 2, 1) := by decide +kernel
theorem dX9_turn_176 : decode cX9_turn 176 = Except.ok (Instr.laload, 1) := by decide +kernel
theorem dX9_turn_177 : decode cX9_turn 177 = Except.ok (Instr.aload_n 0, 1) := by decide +kernel
theorem dX9_turn_178 : decode cX9_turn 178 = Except.ok (Instr.getfield 19, 3) := by decide +kernel
theorem dX9_turn_181 : decode cX9_turn 181 = Except.ok (Instr.iconst 2, 1) := by decide +kernel
theorem dX9_turn_182 : decode cX9_turn 182 = Except.ok (Instr.laload, 1) := by decide +kernel
theorem dX9_turn_183 : decode cX9_turn 183 = Except.ok (Instr.lmul, 1) := by decide +kernel
theorem dX9_turn_184 : decode cX9_turn 184 = Except.ok (Instr.ladd, 1) := by decide +kernel
theorem dX9_turn_185 : decode cX9_turn 185 = Except.ok (Instr.aload_n 0, 1) := by decide +kernel
theorem dX9_turn_186 : decode cX9_turn 186 = Except.ok (Instr.getfield 19, 3) := by decide +kernel
theorem dX9_turn_189 : decode cX9_turn 189 = Except.ok (Instr.iconst 3, 1) := by decide +kernel
theorem dX9_turn_190 : decode cX9_turn 190 = Except.ok (Instr.laload, 1) := by decide +kernel
theorem dX9_turn_191 : decode cX9_turn 191 = Except.ok (Instr.aload_n 0, 1) := by decide +kernel
theorem dX9_turn_192 : decode cX9_turn 192 = Except.ok (Instr.getfield 19, 3) := by decide +kernel
theorem dX9_turn_195 : decode cX9_turn 195 = Except.ok (Instr.iconst 3, 1) := by decide +kernel
theorem dX9_turn_196 : decode cX9_turn 196 = Except.ok (Instr.laload, 1) := by decide +kernel
theorem dX9_turn_197 : decode cX9_turn 197 = Except.ok (Instr.lmul, 1) := by decide +kernel
theorem dX9_turn_198 : decode cX9_turn 198 = Except.ok (Instr.ladd, 1) := by decide +kernel
theorem dX9_turn_199 : decode cX9_turn 199 = Except.ok (Instr.bipush 28, 2) := by decide +kernel
theorem dX9_turn_201 : decode cX9_turn 201 = Except.ok (Instr.lshr, 1) := by decide +kernel
theorem dX9_turn_202 : decode cX9_turn 202 = Except.ok (Instr.lstore 21, 2) := by decide +kernel
theorem dX9_turn_204 : decode cX9_turn 204 = Except.ok (Instr.ldc2_w 113, 3) := by decide +kernel
theorem dX9_turn_207 : decode cX9_turn 207 = Except.ok (Instr.ldc2_w 113, 3) := by decide +kernel
theorem dX9_turn_210 : decode cX9_turn 210 = Except.ok (Instr.lload 21, 2) := by decide +kernel
theorem dX9_turn_212 : decode cX9_turn 212 = Except.ok (Instr.lsub, 1) := by decide +kernel
theorem dX9_turn_213 : decode cX9_turn 213 = Except.ok (Instr.iconst 1, 1) := by decide +kernel
theorem dX9_turn_214 : decode cX9_turn 214 = Except.ok (Instr.lshr, 1) := by decide +kernel
theorem dX9_turn_215 : decode cX9_turn 215 = Except.ok (Instr.ladd, 1) := by decide +kernel
theorem dX9_turn_216 : decode cX9_turn 216 = Except.ok (Instr.lstore 23, 2) := by decide +kernel
theorem dX9_turn_218 : decode cX9_turn 218 = Except.ok (Instr.iconst 0, 1) := by decide +kernel
theorem dX9_turn_219 : decode cX9_turn 219 = Except.ok (Instr.istore 25, 2) := by decide +kernel
theorem dX9_turn_221 : decode cX9_turn 221 = Except.ok (Instr.iload 25, 2) := by decide +kernel
theorem dX9_turn_223 : decode cX9_turn 223 = Except.ok (Instr.iconst 4, 1) := by decide +kernel
theorem dX9_turn_224 : decode cX9_turn 224 = Except.ok (Instr.if_icmp .ge 26, 3) := by decide +kernel
theorem dX9_turn_227 : decode cX9_turn 227 = Except.ok (Instr.aload_n 1, 1) := by decide +kernel
theorem dX9_turn_228 : decode cX9_turn 228 = Except.ok (Instr.iload 25, 2) := by decide +kernel
theorem dX9_turn_230 : decode cX9_turn 230 = Except.ok (Instr.aload_n 0, 1) := by decide +kernel
theorem dX9_turn_231 : decode cX9_turn 231 = Except.ok (Instr.getfield 19, 3) := by decide +kernel
theorem dX9_turn_234 : decode cX9_turn 234 = Except.ok (Instr.iload 25, 2) := by decide +kernel
theorem dX9_turn_236 : decode cX9_turn 236 = Except.ok (Instr.laload, 1) := by decide +kernel
theorem dX9_turn_237 : decode cX9_turn 237 = Except.ok (Instr.lload 23, 2) := by decide +kernel
theorem dX9_turn_239 : decode cX9_turn 239 = Except.ok (Instr.lmul, 1) := by decide +kernel
theorem dX9_turn_240 : decode cX9_turn 240 = Except.ok (Instr.bipush 28, 2) := by decide +kernel
theorem dX9_turn_242 : decode cX9_turn 242 = Except.ok (Instr.lshr, 1) := by decide +kernel
theorem dX9_turn_243 : decode cX9_turn 243 = Except.ok (Instr.lastore, 1) := by decide +kernel
theorem dX9_turn_244 : decode cX9_turn 244 = Except.ok (Instr.iinc 25 1, 3) := by decide +kernel
theorem dX9_turn_247 : decode cX9_turn 247 = Except.ok (Instr.goto (-26), 3) := by decide +kernel
theorem dX9_turn_250 : decode cX9_turn 250 = Except.ok (Instr.return_, 1) := by decide +kernel
theorem dX9_angle_0 : decode cX9_angle 0 = Except.ok (Instr.aload_n 0, 1) := by decide +kernel
theorem dX9_angle_1 : decode cX9_angle 1 = Except.ok (Instr.getfield 31, 3) := by decide +kernel
theorem dX9_angle_4 : decode cX9_angle 4 = Except.ok (Instr.iconst 0, 1) := by decide +kernel
theorem dX9_angle_5 : decode cX9_angle 5 = Except.ok (Instr.aload_n 1, 1) := by decide +kernel
theorem dX9_angle_6 : decode cX9_angle 6 = Except.ok (Instr.iconst 0, 1) := by decide +kernel
theorem dX9_angle_7 : decode cX9_angle 7 = Except.ok (Instr.laload, 1) := by decide +kernel
theorem dX9_angle_8 : decode cX9_angle 8 = Except.ok (Instr.lastore, 1) := by decide +kernel
theorem dX9_angle_9 : decode cX9_angle 9 = Except.ok (Instr.iconst 1, 1) := by decide +kernel
theorem dX9_angle_10 : decode cX9_angle 10 = Except.ok (Instr.istore_n 3, 1) := by decide +kernel
theorem dX9_angle_11 : decode cX9_angle 11 = Except.ok (Instr.iload_n 3, 1) := by decide +kernel
theorem dX9_angle_12 : decode cX9_angle 12 = Except.ok (Instr.iconst 4, 1) := by decide +kernel
theorem dX9_angle_13 : decode cX9_angle 13 = Except.ok (Instr.if_icmp .ge 19, 3) := by decide +kernel
theorem dX9_angle_16 : decode cX9_angle 16 = Except.ok (Instr.aload_n 0, 1) := by decide +kernel
theorem dX9_angle_17 : decode cX9_angle 17 = Except.ok (Instr.getfield 31, 3) := by decide +kernel
theorem dX9_angle_20 : decode cX9_angle 20 = Except.ok (Instr.iload_n 3, 1) := by decide +kernel
theorem dX9_angle_21 : decode cX9_angle 21 = Except.ok (Instr.aload_n 1, 1) := by decide +kernel
theorem dX9_angle_22 : decode cX9_angle 22 = Except.ok (Instr.iload_n 3, 1) := by decide +kernel
theorem dX9_angle_23 : decode cX9_angle 23 = Except.ok (Instr.laload, 1) := by decide +kernel
theorem dX9_angle_24 : decode cX9_angle 24 = Except.ok (Instr.lneg, 1) := by decide +kernel
theorem dX9_angle_25 : decode cX9_angle 25 = Except.ok (Instr.lastore, 1) := by decide +kernel
theorem dX9_angle_26 : decode cX9_angle 26 = Except.ok (Instr.iinc 3 1, 3) := by decide +kernel
theorem dX9_angle_29 : decode cX9_angle 29 = Except.ok (Instr.goto (-18), 3) := by decide +kernel
theorem dX9_angle_32 : decode cX9_angle 32 = Except.ok (Instr.aload_n 0, 1) := by decide +kernel
theorem dX9_angle_33 : decode cX9_angle 33 = Except.ok (Instr.aload_n 0, 1) := by decide +kernel
theorem dX9_angle_34 : decode cX9_angle 34 = Except.ok (Instr.getfield 31, 3) := by decide +kernel
theorem dX9_angle_37 : decode cX9_angle 37 = Except.ok (Instr.aload_n 2, 1) := by decide +kernel
theorem dX9_angle_38 : decode cX9_angle 38 = Except.ok (Instr.invokevirtual 138, 3) := by decide +kernel
theorem dX9_angle_41 : decode cX9_angle 41 = Except.ok (Instr.ldc2_w 105, 3) := by decide +kernel
theorem dX9_angle_44 : decode cX9_angle 44 = Except.ok (Instr.aload_n 0, 1) := by decide +kernel
theorem dX9_angle_45 : decode cX9_angle 45 = Except.ok (Instr.getfield 19, 3) := by decide +kernel
theorem dX9_angle_48 : decode cX9_angle 48 = Except.ok (Instr.iconst 1, 1) := by decide +kernel
theorem dX9_angle_49 : decode cX9_angle 49 = Except.ok (Instr.laload, 1) := by decide +kernel
theorem dX9_angle_50 : decode cX9_angle 50 = Except.ok (Instr.aload_n 0, 1) := by decide +kernel
theorem dX9_angle_51 : decode cX9_angle 51 = Except.ok (Instr.getfield 19, 3) := by decide +kernel
theorem dX9_angle_54 : decode cX9_angle 54 = Except.ok (Instr.iconst 1, 1) := by decide +kernel
theorem dX9_angle_55 : decode cX9_angle 55 = Except.ok (Instr.laload, 1) := by decide +kernel
theorem dX9_angle_56 : decode cX9_angle 56 = Except.ok (Instr.lmul, 1) := by decide +kernel
theorem dX9_angle_57 : decode cX9_angle 57 = Except.ok (Instr.aload_n 0, 1) := by decide +kernel
theorem dX9_angle_58 : decode cX9_angle 58 = Except.ok (Instr.getfield 19, 3) := by decide +kernel
theorem dX9_angle_61 : decode cX9_angle 61 = Except.ok (Instr.iconst 2, 1) := by decide +kernel
theorem dX9_angle_62 : decode cX9_angle 62 = Except.ok (Instr.laload, 1) := by decide +kernel
theorem dX9_angle_63 : decode cX9_angle 63 = Except.ok (Instr.aload_n 0, 1) := by decide +kernel
theorem dX9_angle_64 : decode cX9_angle 64 = Except.ok (Instr.getfield 19, 3) := by decide +kernel
theorem dX9_angle_67 : decode cX9_angle 67 = Except.ok (Instr.iconst 2, 1) := by decide +kernel
theorem dX9_angle_68 : decode cX9_angle 68 = Except.ok (Instr.laload, 1) := by decide +kernel
theorem dX9_angle_69 : decode cX9_angle 69 = Except.ok (Instr.lmul, 1) := by decide +kernel
theorem dX9_angle_70 : decode cX9_angle 70 = Except.ok (Instr.ladd, 1) := by decide +kernel
theorem dX9_angle_71 : decode cX9_angle 71 = Except.ok (Instr.aload_n 0, 1) := by decide +kernel
theorem dX9_angle_72 : decode cX9_angle 72 = Except.ok (Instr.getfield 19, 3) := by decide +kernel
theorem dX9_angle_75 : decode cX9_angle 75 = Except.ok (Instr.iconst 3, 1) := by decide +kernel
theorem dX9_angle_76 : decode cX9_angle 76 = Except.ok (Instr.laload, 1) := by decide +kernel
theorem dX9_angle_77 : decode cX9_angle 77 = Except.ok (Instr.aload_n 0, 1) := by decide +kernel
theorem dX9_angle_78 : decode cX9_angle 78 = Except.ok (Instr.getfield 19, 3) := by decide +kernel
theorem dX9_angle_81 : decode cX9_angle 81 = Except.ok (Instr.iconst 3, 1) := by decide +kernel
theorem dX9_angle_82 : decode cX9_angle 82 = Except.ok (Instr.laload, 1) := by decide +kernel
theorem dX9_angle_83 : decode cX9_angle 83 = Except.ok (Instr.lmul, 1) := by decide +kernel
theorem dX9_angle_84 : decode cX9_angle 84 = Except.ok (Instr.ladd, 1) := by decide +kernel
theorem dX9_angle_85 : decode cX9_angle 85 = Except.ok (Instr.invokestatic 142, 3) := by decide +kernel
theorem dX9_angle_88 : decode cX9_angle 88 = Except.ok (Instr.lmul, 1) := by decide +kernel
theorem dX9_angle_89 : decode cX9_angle 89 = Except.ok (Instr.lreturn, 1) := by decide +kernel
theorem dX9_begin_0 : decode cX9_begin 0 = Except.ok (Instr.iconst 0, 1) := by decide +kernel
theorem dX9_begin_1 : decode cX9_begin 1 = Except.ok (Instr.istore_n 1, 1) := by decide +kernel
theorem dX9_begin_2 : decode cX9_begin 2 = Except.ok (Instr.iload_n 1, 1) := by decide +kernel
theorem dX9_begin_3 : decode cX9_begin 3 = Except.ok (Instr.iconst 4, 1) := by decide +kernel
theorem dX9_begin_4 : decode cX9_begin 4 = Except.ok (Instr.if_icmp .ge 43, 3) := by decide +kernel
theorem dX9_begin_7 : decode cX9_begin 7 = Except.ok (Instr.aload_n 0, 1) := by decide +kernel
theorem dX9_begin_8 : decode cX9_begin 8 = Except.ok (Instr.getfield 7, 3) := by decide +kernel
theorem dX9_begin_11 : decode cX9_begin 11 = Except.ok (Instr.iload_n 1, 1) := by decide +kernel
theorem dX9_begin_12 : decode cX9_begin 12 = Except.ok (Instr.iload_n 1, 1) := by decide +kernel
theorem dX9_begin_13 : decode cX9_begin 13 = Except.ok (Instr.ifCond .ne 9, 3) := by decide +kernel
theorem dX9_begin_16 : decode cX9_begin 16 = Except.ok (Instr.ldc2_w 113, 3) := by decide +kernel
theorem dX9_begin_19 : decode cX9_begin 19 = Except.ok (Instr.goto 4, 3) := by decide +kernel
theorem dX9_begin_22 : decode cX9_begin 22 = Except.ok (Instr.lconst 0, 1) := by decide +kernel
theorem dX9_begin_23 : decode cX9_begin 23 = Except.ok (Instr.lastore, 1) := by decide +kernel
theorem dX9_begin_24 : decode cX9_begin 24 = Except.ok (Instr.aload_n 0, 1) := by decide +kernel
theorem dX9_begin_25 : decode cX9_begin 25 = Except.ok (Instr.getfield 13, 3) := by decide +kernel
theorem dX9_begin_28 : decode cX9_begin 28 = Except.ok (Instr.iload_n 1, 1) := by decide +kernel
theorem dX9_begin_29 : decode cX9_begin 29 = Except.ok (Instr.iload_n 1, 1) := by decide +kernel
theorem dX9_begin_30 : decode cX9_begin 30 = Except.ok (Instr.ifCond .ne 9, 3) := by decide +kernel
theorem dX9_begin_33 : decode cX9_begin 33 = Except.ok (Instr.ldc2_w 113, 3) := by decide +kernel
theorem dX9_begin_36 : decode cX9_begin 36 = Except.ok (Instr.goto 4, 3) := by decide +kernel
theorem dX9_begin_39 : decode cX9_begin 39 = Except.ok (Instr.lconst 0, 1) := by decide +kernel
theorem dX9_begin_40 : decode cX9_begin 40 = Except.ok (Instr.lastore, 1) := by decide +kernel
theorem dX9_begin_41 : decode cX9_begin 41 = Except.ok (Instr.iinc 1 1, 3) := by decide +kernel
theorem dX9_begin_44 : decode cX9_begin 44 = Except.ok (Instr.goto (-42), 3) := by decide +kernel
theorem dX9_begin_47 : decode cX9_begin 47 = Except.ok (Instr.iconst 0, 1) := by decide +kernel
theorem dX9_begin_48 : decode cX9_begin 48 = Except.ok (Instr.istore_n 1, 1) := by decide +kernel
theorem dX9_begin_49 : decode cX9_begin 49 = Except.ok (Instr.iload_n 1, 1) := by decide +kernel
theorem dX9_begin_50 : decode cX9_begin 50 = Except.ok (Instr.iconst 3, 1) := by decide +kernel
theorem dX9_begin_51 : decode cX9_begin 51 = Except.ok (Instr.if_icmp .ge 86, 3) := by decide +kernel
theorem dX9_begin_54 : decode cX9_begin 54 = Except.ok (Instr.aload_n 0, 1) := by decide +kernel
theorem dX9_begin_55 : decode cX9_begin 55 = Except.ok (Instr.getfield 34, 3) := by decide +kernel
theorem dX9_begin_58 : decode cX9_begin 58 = Except.ok (Instr.iload_n 1, 1) := by decide +kernel
theorem dX9_begin_59 : decode cX9_begin 59 = Except.ok (Instr.iconst 0, 1) := by decide +kernel
theorem dX9_begin_60 : decode cX9_begin 60 = Except.ok (Instr.iastore, 1) := by decide +kernel
theorem dX9_begin_61 : decode cX9_begin 61 = Except.ok (Instr.aload_n 0, 1) := by decide +kernel
theorem dX9_begin_62 : decode cX9_begin 62 = Except.ok (Instr.getfield 38, 3) := by decide +kernel
theorem dX9_begin_65 : decode cX9_begin 65 = Except.ok (Instr.iload_n 1, 1) := by decide +kernel
theorem dX9_begin_66 : decode cX9_begin 66 = Except.ok (Instr.iconst 0, 1) := by decide +kernel
theorem dX9_begin_67 : decode cX9_begin 67 = Except.ok (Instr.iastore, 1) := by decide +kernel
theorem dX9_begin_68 : decode cX9_begin 68 = Except.ok (Instr.aload_n 0, 1) := by decide +kernel
theorem dX9_begin_69 : decode cX9_begin 69 = Except.ok (Instr.getfield 41, 3) := by decide +kernel
theorem dX9_begin_72 : decode cX9_begin 72 = Except.ok (Instr.iload_n 1, 1) := by decide +kernel
theorem dX9_begin_73 : decode cX9_begin 73 = Except.ok (Instr.iconst 0, 1) := by decide +kernel
theorem dX9_begin_74 : decode cX9_begin 74 = Except.ok (Instr.iastore, 1) := by decide +kernel
theorem dX9_begin_75 : decode cX9_begin 75 = Except.ok (Instr.aload_n 0, 1) := by decide +kernel
theorem dX9_begin_76 : decode cX9_begin 76 = Except.ok (Instr.getfield 44, 3) := by decide +kernel
theorem dX9_begin_79 : decode cX9_begin 79 = Except.ok (Instr.iload_n 1, 1) := by decide +kernel
theorem dX9_begin_80 : decode cX9_begin 80 = Except.ok (Instr.iconst 0, 1) := by decide +kernel
theorem dX9_begin_81 : decode cX9_begin 81 = Except.ok (Instr.iastore, 1) := by decide +kernel
theorem dX9_begin_82 : decode cX9_begin 82 = Except.ok (Instr.aload_n 0, 1) := by decide +kernel
theorem dX9_begin_83 : decode cX9_begin 83 = Except.ok (Instr.getfield 47, 3) := by decide +kernel
theorem dX9_begin_86 : decode cX9_begin 86 = Except.ok (Instr.iload_n 1, 1) := by decide +kernel
theorem dX9_begin_87 : decode cX9_begin 87 = Except.ok (Instr.iconst 0, 1) := by decide +kernel
theorem dX9_begin_88 : decode cX9_begin 88 = Except.ok (Instr.iastore, 1) := by decide +kernel
theorem dX9_begin_89 : decode cX9_begin 89 = Except.ok (Instr.aload_n 0, 1) := by decide +kernel
theorem dX9_begin_90 : decode cX9_begin 90 = Except.ok (Instr.getfield 56, 3) := by decide +kernel
theorem dX9_begin_93 : decode cX9_begin 93 = Except.ok (Instr.iload_n 1, 1) := by decide +kernel
theorem dX9_begin_94 : decode cX9_begin 94 = Except.ok (Instr.lconst 0, 1) := by decide +kernel
theorem dX9_begin_95 : decode cX9_begin 95 = Except.ok (Instr.lastore, 1) := by decide +kernel
theorem dX9_begin_96 : decode cX9_begin 96 = Except.ok (Instr.aload_n 0, 1) := by decide +kernel
theorem dX9_begin_97 : decode cX9_begin 97 = Except.ok (Instr.getfield 59, 3) := by decide +kernel
theorem dX9_begin_100 : decode cX9_begin 100 = Except.ok (Instr.iload_n 1, 1) := by decide +kernel
theorem dX9_begin_101 : decode cX9_begin 101 = Except.ok (Instr.lconst 0, 1) := by decide +kernel
theorem dX9_begin_102 : decode cX9_begin 102 = Except.ok (Instr.lastore, 1) := by decide +kernel
theorem dX9_begin_103 : decode cX9_begin 103 = Except.ok (Instr.aload_n 0, 1) := by decide +kernel
theorem dX9_begin_104 : decode cX9_begin 104 = Except.ok (Instr.getfield 71, 3) := by decide +kernel
theorem dX9_begin_107 : decode cX9_begin 107 = Except.ok (Instr.iload_n 1, 1) := by decide +kernel
theorem dX9_begin_108 : decode cX9_begin 108 = Except.ok (Instr.lconst 0, 1) := by decide +kernel
theorem dX9_begin_109 : decode cX9_begin 109 = Except.ok (Instr.lastore, 1) := by decide +kernel
theorem dX9_begin_110 : decode cX9_begin 110 = Except.ok (Instr.aload_n 0, 1) := by decide +kernel
theorem dX9_begin_111 : decode cX9_begin 111 = Except.ok (Instr.getfield 74, 3) := by decide +kernel
theorem dX9_begin_114 : decode cX9_begin 114 = Except.ok (Instr.iload_n 1, 1) := by decide +kernel
theorem dX9_begin_115 : decode cX9_begin 115 = Except.ok (Instr.lconst 0, 1) := by decide +kernel
theorem dX9_begin_116 : decode cX9_begin 116 = Except.ok (Instr.lastore, 1) := by decide +kernel
theorem dX9_begin_117 : decode cX9_begin 117 = Except.ok (Instr.aload_n 0, 1) := by decide +kernel
theorem dX9_begin_118 : decode cX9_begin 118 = Except.ok (Instr.getfield 77, 3) := by decide +kernel
theorem dX9_begin_121 : decode cX9_begin 121 = Except.ok (Instr.iload_n 1, 1) := by decide +kernel
theorem dX9_begin_122 : decode cX9_begin 122 = Except.ok (Instr.lconst 0, 1) := by decide +kernel
theorem dX9_begin_123 : decode cX9_begin 123 = Except.ok (Instr.lastore, 1) := by decide +kernel
theorem dX9_begin_124 : decode cX9_begin 124 = Except.ok (Instr.aload_n 0, 1) := by decide +kernel
theorem dX9_begin_125 : decode cX9_begin 125 = Except.ok (Instr.getfield 80, 3) := by decide +kernel
theorem dX9_begin_128 : decode cX9_begin 128 = Except.ok (Instr.iload_n 1, 1) := by decide +kernel
theorem dX9_begin_129 : decode cX9_begin 129 = Except.ok (Instr.lconst 0, 1) := by decide +kernel
theorem dX9_begin_130 : decode cX9_begin 130 = Except.ok (Instr.lastore, 1) := by decide +kernel
theorem dX9_begin_131 : decode cX9_begin 131 = Except.ok (Instr.iinc 1 1, 3) := by decide +kernel
theorem dX9_begin_134 : decode cX9_begin 134 = Except.ok (Instr.goto (-85), 3) := by decide +kernel
theorem dX9_begin_137 : decode cX9_begin 137 = Except.ok (Instr.iconst 0, 1) := by decide +kernel
theorem dX9_begin_138 : decode cX9_begin 138 = Except.ok (Instr.istore_n 1, 1) := by decide +kernel
theorem dX9_begin_139 : decode cX9_begin 139 = Except.ok (Instr.iload_n 1, 1) := by decide +kernel
theorem dX9_begin_140 : decode cX9_begin 140 = Except.ok (Instr.bipush 39, 2) := by decide +kernel
theorem dX9_begin_142 : decode cX9_begin 142 = Except.ok (Instr.if_icmp .ge 16, 3) := by decide +kernel
theorem dX9_begin_145 : decode cX9_begin 145 = Except.ok (Instr.aload_n 0, 1) := by decide +kernel
theorem dX9_begin_146 : decode cX9_begin 146 = Except.ok (Instr.getfield 86, 3) := by decide +kernel
theorem dX9_begin_149 : decode cX9_begin 149 = Except.ok (Instr.iload_n 1, 1) := by decide +kernel
theorem dX9_begin_150 : decode cX9_begin 150 = Except.ok (Instr.iconst 0, 1) := by decide +kernel
theorem dX9_begin_151 : decode cX9_begin 151 = Except.ok (Instr.bastore, 1) := by decide +kernel
theorem dX9_begin_152 : decode cX9_begin 152 = Except.ok (Instr.iinc 1 1, 3) := by decide +kernel
theorem dX9_begin_155 : decode cX9_begin 155 = Except.ok (Instr.goto (-16), 3) := by decide +kernel
theorem dX9_begin_158 : decode cX9_begin 158 = Except.ok (Instr.iconst 0, 1) := by decide +kernel
theorem dX9_begin_159 : decode cX9_begin 159 = Except.ok (Instr.istore_n 1, 1) := by decide +kernel
theorem dX9_begin_160 : decode cX9_begin 160 = Except.ok (Instr.iload_n 1, 1) := by decide +kernel
theorem dX9_begin_161 : decode cX9_begin 161 = Except.ok (Instr.bipush 13, 2) := by decide +kernel
theorem dX9_begin_163 : decode cX9_begin 163 = Except.ok (Instr.if_icmp .ge 16, 3) := by decide +kernel
theorem dX9_begin_166 : decode cX9_begin 166 = Except.ok (Instr.aload_n 0, 1) := by decide +kernel
theorem dX9_begin_167 : decode cX9_begin 167 = Except.ok (Instr.getfield 90, 3) := by decide +kernel
theorem dX9_begin_170 : decode cX9_begin 170 = Except.ok (Instr.iload_n 1, 1) := by decide +kernel
theorem dX9_begin_171 : decode cX9_begin 171 = Except.ok (Instr.iconst 0, 1) := by decide +kernel
theorem dX9_begin_172 : decode cX9_begin 172 = Except.ok (Instr.bastore, 1) := by decide +kernel
theorem dX9_begin_173 : decode cX9_begin 173 = Except.ok (Instr.iinc 1 1, 3) := by decide +kernel
theorem dX9_begin_176 : decode cX9_begin 176 = Except.ok (Instr.goto (-16), 3) := by decide +kernel
theorem dX9_begin_179 : decode cX9_begin 179 = Except.ok (Instr.aload_n 0, 1) := by decide +kernel
theorem dX9_begin_180 : decode cX9_begin 180 = Except.ok (Instr.lconst 0, 1) := by decide +kernel
theorem dX9_begin_181 : decode cX9_begin 181 = Except.ok (Instr.putfield 119, 3) := by decide +kernel
theorem dX9_begin_184 : decode cX9_begin 184 = Except.ok (Instr.aload_n 0, 1) := by decide +kernel
theorem dX9_begin_185 : decode cX9_begin 185 = Except.ok (Instr.lconst 0, 1) := by decide +kernel
theorem dX9_begin_186 : decode cX9_begin 186 = Except.ok (Instr.putfield 123, 3) := by decide +kernel
theorem dX9_begin_189 : decode cX9_begin 189 = Except.ok (Instr.aload_n 0, 1) := by decide +kernel
theorem dX9_begin_190 : decode cX9_begin 190 = Except.ok (Instr.bipush 25, 2) := by decide +kernel
theorem dX9_begin_192 : decode cX9_begin 192 = Except.ok (Instr.putfield 146, 3) := by decide +kernel
theorem dX9_begin_195 : decode cX9_begin 195 = Except.ok (Instr.aload_n 0, 1) := by decide +kernel
theorem dX9_begin_196 : decode cX9_begin 196 = Except.ok (Instr.iconst 0, 1) := by decide +kernel
theorem dX9_begin_197 : decode cX9_begin 197 = Except.ok (Instr.putfield 150, 3) := by decide +kernel
theorem dX9_begin_200 : decode cX9_begin 200 = Except.ok (Instr.aload_n 0, 1) := by decide +kernel
theorem dX9_begin_201 : decode cX9_begin 201 = Except.ok (Instr.iconst 0, 1) := by decide +kernel
theorem dX9_begin_202 : decode cX9_begin 202 = Except.ok (Instr.putfield 153, 3) := by decide +kernel
theorem dX9_begin_205 : decode cX9_begin 205 = Except.ok (Instr.aload_n 0, 1) := by decide +kernel
theorem dX9_begin_206 : decode cX9_begin 206 = Except.ok (Instr.iconst 0, 1) := by decide +kernel
theorem dX9_begin_207 : decode cX9_begin 207 = Except.ok (Instr.putfield 156, 3) := by decide +kernel
theorem dX9_begin_210 : decode cX9_begin 210 = Except.ok (Instr.aload_n 0, 1) := by decide +kernel
theorem dX9_begin_211 : decode cX9_begin 211 = Except.ok (Instr.iconst 1, 1) := by decide +kernel
theorem dX9_begin_212 : decode cX9_begin 212 = Except.ok (Instr.putfield 159, 3) := by decide +kernel
theorem dX9_begin_215 : decode cX9_begin 215 = Except.ok (Instr.aload_n 0, 1) := by decide +kernel
theorem dX9_begin_216 : decode cX9_begin 216 = Except.ok (Instr.iconst 0, 1) := by decide +kernel
theorem dX9_begin_217 : decode cX9_begin 217 = Except.ok (Instr.putfield 162, 3) := by decide +kernel
theorem dX9_begin_220 : decode cX9_begin 220 = Except.ok (Instr.aload_n 0, 1) := by decide +kernel
theorem dX9_begin_221 : decode cX9_begin 221 = Except.ok (Instr.iconst 0, 1) := by decide +kernel
theorem dX9_begin_222 : decode cX9_begin 222 = Except.ok (Instr.putfield 165, 3) := by decide +kernel
theorem dX9_begin_225 : decode cX9_begin 225 = Except.ok (Instr.aload_n 0, 1) := by decide +kernel
theorem dX9_begin_226 : decode cX9_begin 226 = Except.ok (Instr.iconst 0, 1) := by decide +kernel
theorem dX9_begin_227 : decode cX9_begin 227 = Except.ok (Instr.putfield 168, 3) := by decide +kernel
theorem dX9_begin_230 : decode cX9_begin 230 = Except.ok (Instr.aload_n 0, 1) := by decide +kernel
theorem dX9_begin_231 : decode cX9_begin 231 = Except.ok (Instr.iconst 0, 1) := by decide +kernel
theorem dX9_begin_232 : decode cX9_begin 232 = Except.ok (Instr.putfield 171, 3) := by decide +kernel
theorem dX9_begin_235 : decode cX9_begin 235 = Except.ok (Instr.aload_n 0, 1) := by decide +kernel
theorem dX9_begin_236 : decode cX9_begin 236 = Except.ok (Instr.lconst 0, 1) := by decide +kernel
theorem dX9_begin_237 : decode cX9_begin 237 = Except.ok (Instr.putfield 174, 3) := by decide +kernel
theorem dX9_begin_240 : decode cX9_begin 240 = Except.ok (Instr.aload_n 0, 1) := by decide +kernel
theorem dX9_begin_241 : decode cX9_begin 241 = Except.ok (Instr.iconst 0, 1) := by decide +kernel
theorem dX9_begin_242 : decode cX9_begin 242 = Except.ok (Instr.putfield 177, 3) := by decide +kernel
theorem dX9_begin_245 : decode cX9_begin 245 = Except.ok (Instr.return_, 1) := by decide +kernel
theorem dX9_setGyro_0 : decode cX9_setGyro 0 = Except.ok (Instr.iload_n 1, 1) := by decide +kernel
theorem dX9_setGyro_1 : decode cX9_setGyro 1 = Except.ok (Instr.invokestatic 180, 3) := by decide +kernel
theorem dX9_setGyro_4 : decode cX9_setGyro 4 = Except.ok (Instr.ifCond .eq 59, 3) := by decide +kernel
theorem dX9_setGyro_7 : decode cX9_setGyro 7 = Except.ok (Instr.iload_n 2, 1) := by decide +kernel
theorem dX9_setGyro_8 : decode cX9_setGyro 8 = Except.ok (Instr.i2l, 1) := by decide +kernel
theorem dX9_setGyro_9 : decode cX9_setGyro 9 = Except.ok (Instr.ldc2_w 184, 3) := by decide +kernel
theorem dX9_setGyro_12 : decode cX9_setGyro 12 = Except.ok (Instr.ldc2_w 186, 3) := by decide +kernel
theorem dX9_setGyro_15 : decode cX9_setGyro 15 = Except.ok (Instr.invokestatic 107, 3) := by decide +kernel
theorem dX9_setGyro_18 : decode cX9_setGyro 18 = Except.ok (Instr.ifCond .eq 45, 3) := by decide +kernel
theorem dX9_setGyro_21 : decode cX9_setGyro 21 = Except.ok (Instr.iload_n 3, 1) := by decide +kernel
theorem dX9_setGyro_22 : decode cX9_setGyro 22 = Except.ok (Instr.i2l, 1) := by decide +kernel
theorem dX9_setGyro_23 : decode cX9_setGyro 23 = Except.ok (Instr.ldc2_w 188, 3) := by decide +kernel
theorem dX9_setGyro_26 : decode cX9_setGyro 26 = Except.ok (Instr.ldc2_w 190, 3) := by decide +kernel
theorem dX9_setGyro_29 : decode cX9_setGyro 29 = Except.ok (Instr.invokestatic 107, 3) := by decide +kernel
theorem dX9_setGyro_32 : decode cX9_setGyro 32 = Except.ok (Instr.ifCond .eq 31, 3) := by decide +kernel
theorem dX9_setGyro_35 : decode cX9_setGyro 35 = Except.ok (Instr.iload 4, 2) := by decide +kernel
theorem dX9_setGyro_37 : decode cX9_setGyro 37 = Except.ok (Instr.i2l, 1) := by decide +kernel
theorem dX9_setGyro_38 : decode cX9_setGyro 38 = Except.ok (Instr.lconst 0, 1) := by decide +kernel
theorem dX9_setGyro_39 : decode cX9_setGyro 39 = Except.ok (Instr.ldc2_w 190, 3) := by decide +kernel
theorem dX9_setGyro_42 : decode cX9_setGyro 42 = Except.ok (Instr.invokestatic 107, 3) := by decide +kernel
theorem dX9_setGyro_45 : decode cX9_setGyro 45 = Except.ok (Instr.ifCond .eq 18, 3) := by decide +kernel
theorem dX9_setGyro_48 : decode cX9_setGyro 48 = Except.ok (Instr.iload 5, 2) := by decide +kernel
theorem dX9_setGyro_50 : decode cX9_setGyro 50 = Except.ok (Instr.i2l, 1) := by decide +kernel
theorem dX9_setGyro_51 : decode cX9_setGyro 51 = Except.ok (Instr.ldc2_w 192, 3) := by decide +kernel
theorem dX9_setGyro_54 : decode cX9_setGyro 54 = Except.ok (Instr.ldc2_w 194, 3) := by decide +kernel
theorem dX9_setGyro_57 : decode cX9_setGyro 57 = Except.ok (Instr.invokestatic 107, 3) := by decide +kernel
theorem dX9_setGyro_60 : decode cX9_setGyro 60 = Except.ok (Instr.ifCond .ne 6, 3) := by decide +kernel
theorem dX9_setGyro_63 : decode cX9_setGyro 63 = Except.ok (Instr.bipush (-2), 2) := by decide +kernel
theorem dX9_setGyro_65 : decode cX9_setGyro 65 = Except.ok (Instr.ireturn, 1) := by decide +kernel
theorem dX9_setGyro_66 : decode cX9_setGyro 66 = Except.ok (Instr.aload_n 0, 1) := by decide +kernel
theorem dX9_setGyro_67 : decode cX9_setGyro 67 = Except.ok (Instr.getfield 34, 3) := by decide +kernel
theorem dX9_setGyro_70 : decode cX9_setGyro 70 = Except.ok (Instr.iload_n 1, 1) := by decide +kernel
theorem dX9_setGyro_71 : decode cX9_setGyro 71 = Except.ok (Instr.iload_n 2, 1) := by decide +kernel
theorem dX9_setGyro_72 : decode cX9_setGyro 72 = Except.ok (Instr.iastore, 1) := by decide +kernel
theorem dX9_setGyro_73 : decode cX9_setGyro 73 = Except.ok (Instr.aload_n 0, 1) := by decide +kernel
theorem dX9_setGyro_74 : decode cX9_setGyro 74 = Except.ok (Instr.getfield 38, 3) := by decide +kernel
theorem dX9_setGyro_77 : decode cX9_setGyro 77 = Except.ok (Instr.iload_n 1, 1) := by decide +kernel
theorem dX9_setGyro_78 : decode cX9_setGyro 78 = Except.ok (Instr.iload_n 3, 1) := by decide +kernel
theorem dX9_setGyro_79 : decode cX9_setGyro 79 = Except.ok (Instr.iastore, 1) := by decide +kernel
theorem dX9_setGyro_80 : decode cX9_setGyro 80 = Except.ok (Instr.aload_n 0, 1) := by decide +kernel
theorem dX9_setGyro_81 : decode cX9_setGyro 81 = Except.ok (Instr.getfield 41, 3) := by decide +kernel
theorem dX9_setGyro_84 : decode cX9_setGyro 84 = Except.ok (Instr.iload_n 1, 1) := by decide +kernel
theorem dX9_setGyro_85 : decode cX9_setGyro 85 = Except.ok (Instr.iload 4, 2) := by decide +kernel
theorem dX9_setGyro_87 : decode cX9_setGyro 87 = Except.ok (Instr.iastore, 1) := by decide +kernel
theorem dX9_setGyro_88 : decode cX9_setGyro 88 = Except.ok (Instr.aload_n 0, 1) := by decide +kernel
theorem dX9_setGyro_89 : decode cX9_setGyro 89 = Except.ok (Instr.getfield 44, 3) := by decide +kernel
theorem dX9_setGyro_92 : decode cX9_setGyro 92 = Except.ok (Instr.iload_n 1, 1) := by decide +kernel
theorem dX9_setGyro_93 : decode cX9_setGyro 93 = Except.ok (Instr.iload 5, 2) := by decide +kernel
theorem dX9_setGyro_95 : decode cX9_setGyro 95 = Except.ok (Instr.iastore, 1) := by decide +kernel
theorem dX9_setGyro_96 : decode cX9_setGyro 96 = Except.ok (Instr.iconst 0, 1) := by decide +kernel
theorem dX9_setGyro_97 : decode cX9_setGyro 97 = Except.ok (Instr.ireturn, 1) := by decide +kernel
theorem dX9_setAccelerometer_0 : decode cX9_setAccelerometer 0 = Except.ok (Instr.iload_n 1, 1) := by decide +kernel
theorem dX9_setAccelerometer_1 : decode cX9_setAccelerometer 1 = Except.ok (Instr.invokestatic 180, 3) := by decide +kernel
theorem dX9_setAccelerometer_4 : decode cX9_setAccelerometer 4 = Except.ok (Instr.ifCond .eq 17, 3) := by decide +kernel
theorem dX9_setAccelerometer_7 : decode cX9_setAccelerometer 7 = Except.ok (Instr.iload_n 2, 1) := by decide +kernel
theorem dX9_setAccelerometer_8 : decode cX9_setAccelerometer 8 = Except.ok (Instr.i2l, 1) := by decide +kernel
theorem dX9_setAccelerometer_9 : decode cX9_setAccelerometer 9 = Except.ok (Instr.ldc2_w 196, 3) := by decide +kernel
theorem dX9_setAccelerometer_12 : decode cX9_setAccelerometer 12 = Except.ok (Instr.ldc2_w 198, 3) := by decide +kernel
theorem dX9_setAccelerometer_15 : decode cX9_setAccelerometer 15 = Except.ok (Instr.invokestatic 107, 3) := by decide +kernel
theorem dX9_setAccelerometer_18 : decode cX9_setAccelerometer 18 = Except.ok (Instr.ifCond .ne 6, 3) := by decide +kernel
theorem dX9_setAccelerometer_21 : decode cX9_setAccelerometer 21 = Except.ok (Instr.bipush (-2), 2) := by decide +kernel
theorem dX9_setAccelerometer_23 : decode cX9_setAccelerometer 23 = Except.ok (Instr.ireturn, 1) := by decide +kernel
theorem dX9_setAccelerometer_24 : decode cX9_setAccelerometer 24 = Except.ok (Instr.aload_n 0, 1) := by decide +kernel
theorem dX9_setAccelerometer_25 : decode cX9_setAccelerometer 25 = Except.ok (Instr.getfield 47, 3) := by decide +kernel
theorem dX9_setAccelerometer_28 : decode cX9_setAccelerometer 28 = Except.ok (Instr.iload_n 1, 1) := by decide +kernel
theorem dX9_setAccelerometer_29 : decode cX9_setAccelerometer 29 = Except.ok (Instr.iload_n 2, 1) := by decide +kernel
theorem dX9_setAccelerometer_30 : decode cX9_setAccelerometer 30 = Except.ok (Instr.iastore, 1) := by decide +kernel
theorem dX9_setAccelerometer_31 : decode cX9_setAccelerometer 31 = Except.ok (Instr.iconst 0, 1) := by decide +kernel
theorem dX9_setAccelerometer_32 : decode cX9_setAccelerometer 32 = Except.ok (Instr.ireturn, 1) := by decide +kernel
theorem dX9_setEarthRate_0 : decode cX9_setEarthRate 0 = Except.ok (Instr.iload_n 1, 1) := by decide +kernel
theorem dX9_setEarthRate_1 : decode cX9_setEarthRate 1 = Except.ok (Instr.i2l, 1) := by decide +kernel
theorem dX9_setEarthRate_2 : decode cX9_setEarthRate 2 = Except.ok (Instr.ldc2_w 200, 3) := by decide +kernel
theorem dX9_setEarthRate_5 : decode cX9_setEarthRate 5 = Except.ok (Instr.ldc2_w 202, 3) := by decide +kernel
theorem dX9_setEarthRate_8 : decode cX9_setEarthRate 8 = Except.ok (Instr.invokestatic 107, 3) := by decide +kernel
theorem dX9_setEarthRate_11 : decode cX9_setEarthRate 11 = Except.ok (Instr.ifCond .eq 17, 3) := by decide +kernel
theorem dX9_setEarthRate_14 : decode cX9_setEarthRate 14 = Except.ok (Instr.iload_n 2, 1) := by decide +kernel
theorem dX9_setEarthRate_15 : decode cX9_setEarthRate 15 = Except.ok (Instr.i2l, 1) := by decide +kernel
theorem dX9_setEarthRate_16 : decode cX9_setEarthRate 16 = Except.ok (Instr.ldc2_w 200, 3) := by decide +kernel
theorem dX9_setEarthRate_19 : decode cX9_setEarthRate 19 = Except.ok (Instr.ldc2_w 202, 3) := by decide +kernel
theorem dX9_setEarthRate_22 : decode cX9_setEarthRate 22 = Except.ok (Instr.invokestatic 107, 3) := by decide +kernel
theorem dX9_setEarthRate_25 : decode cX9_setEarthRate 25 = Except.ok (Instr.ifCond .ne 6, 3) := by decide +kernel
theorem dX9_setEarthRate_28 : decode cX9_setEarthRate 28 = Except.ok (Instr.bipush (-2), 2) := by decide +kernel
theorem dX9_setEarthRate_30 : decode cX9_setEarthRate 30 = Except.ok (Instr.ireturn, 1) := by decide +kernel
theorem dX9_setEarthRate_31 : decode cX9_setEarthRate 31 = Except.ok (Instr.aload_n 0, 1) := by decide +kernel
theorem dX9_setEarthRate_32 : decode cX9_setEarthRate 32 = Except.ok (Instr.iload_n 1, 1) := by decide +kernel
theorem dX9_setEarthRate_33 : decode cX9_setEarthRate 33 = Except.ok (Instr.i2l, 1) := by decide +kernel
theorem dX9_setEarthRate_34 : decode cX9_setEarthRate 34 = Except.ok (Instr.putfield 119, 3) := by decide +kernel
theorem dX9_setEarthRate_37 : decode cX9_setEarthRate 37 = Except.ok (Instr.aload_n 0, 1) := by decide +kernel
theorem dX9_setEarthRate_38 : decode cX9_setEarthRate 38 = Except.ok (Instr.iload_n 2, 1) := by decide +kernel
theorem dX9_setEarthRate_39 : decode cX9_setEarthRate 39 = Except.ok (Instr.i2l, 1) := by decide +kernel
theorem dX9_setEarthRate_40 : decode cX9_setEarthRate 40 = Except.ok (Instr.putfield 123, 3) := by decide +kernel
theorem dX9_setEarthRate_43 : decode cX9_setEarthRate 43 = Except.ok (Instr.iconst 0, 1) := by decide +kernel
theorem dX9_setEarthRate_44 : decode cX9_setEarthRate 44 = Except.ok (Instr.ireturn, 1) := by decide +kernel
theorem dX9_setTemperature_0 : decode cX9_setTemperature 0 = Except.ok (Instr.iload_n 1, 1) := by decide +kernel
theorem dX9_setTemperature_1 : decode cX9_setTemperature 1 = Except.ok (Instr.i2l, 1) := by decide +kernel
theorem dX9_setTemperature_2 : decode cX9_setTemperature 2 = Except.ok (Instr.ldc2_w 204, 3) := by decide +kernel
theorem dX9_setTemperature_5 : decode cX9_setTemperature 5 = Except.ok (Instr.ldc2_w 206, 3) := by decide +kernel
theorem dX9_setTemperature_8 : decode cX9_setTemperature 8 = Except.ok (Instr.invokestatic 107, 3) := by decide +kernel
theorem dX9_setTemperature_11 : decode cX9_setTemperature 11 = Except.ok (Instr.ifCond .ne 7, 3) := by decide +kernel
theorem dX9_setTemperature_14 : decode cX9_setTemperature 14 = Except.ok (Instr.sipush (-1000), 3) := by decide +kernel
theorem dX9_setTemperature_17 : decode cX9_setTemperature 17 = Except.ok (Instr.ireturn, 1) := by decide +kernel
theorem dX9_setTemperature_18 : decode cX9_setTemperature 18 = Except.ok (Instr.aload_n 0, 1) := by decide +kernel
theorem dX9_setTemperature_19 : decode cX9_setTemperature 19 = Except.ok (Instr.getfield 146, 3) := by decide +kernel
theorem dX9_setTemperature_22 : decode cX9_setTemperature 22 = Except.ok (Instr.istore_n 2, 1) := by decide +kernel
theorem dX9_setTemperature_23 : decode cX9_setTemperature 23 = Except.ok (Instr.aload_n 0, 1) := by decide +kernel
theorem dX9_setTemperature_24 : decode cX9_setTemperature 24 = Except.ok (Instr.iload_n 1, 1) := by decide +kernel
theorem dX9_setTemperature_25 : decode cX9_setTemperature 25 = Except.ok (Instr.putfield 146, 3) := by decide +kernel
theorem dX9_setTemperature_28 : decode cX9_setTemperature 28 = Except.ok (Instr.iload_n 2, 1) := by decide +kernel
theorem dX9_setTemperature_29 : decode cX9_setTemperature 29 = Except.ok (Instr.ireturn, 1) := by decide +kernel
theorem dX9_setSeed_0 : decode cX9_setSeed 0 = Except.ok (Instr.aload_n 0, 1) := by decide +kernel
theorem dX9_setSeed_1 : decode cX9_setSeed 1 = Except.ok (Instr.getfield 150, 3) := by decide +kernel
theorem dX9_setSeed_4 : decode cX9_setSeed 4 = Except.ok (Instr.istore_n 2, 1) := by decide +kernel
theorem dX9_setSeed_5 : decode cX9_setSeed 5 = Except.ok (Instr.aload_n 0, 1) := by decide +kernel
theorem dX9_setSeed_6 : decode cX9_setSeed 6 = Except.ok (Instr.iload_n 1, 1) := by decide +kernel
theorem dX9_setSeed_7 : decode cX9_setSeed 7 = Except.ok (Instr.putfield 150, 3) := by decide +kernel
theorem dX9_setSeed_10 : decode cX9_setSeed 10 = Except.ok (Instr.iload_n 2, 1) := by decide +kernel
theorem dX9_setSeed_11 : decode cX9_setSeed 11 = Except.ok (Instr.ireturn, 1) := by decide +kernel
theorem dX9_isTurn_0 : decode cX9_isTurn 0 = Except.ok (Instr.iload_n 0, 1) := by decide +kernel
theorem dX9_isTurn_1 : decode cX9_isTurn 1 = Except.ok (Instr.i2l, 1) := by decide +kernel
theorem dX9_isTurn_2 : decode cX9_isTurn 2 = Except.ok (Instr.ldc2_w 208, 3) := by decide +kernel
theorem dX9_isTurn_5 : decode cX9_isTurn 5 = Except.ok (Instr.ldc2_w 210, 3) := by decide +kernel
theorem dX9_isTurn_8 : decode cX9_isTurn 8 = Except.ok (Instr.invokestatic 107, 3) := by decide +kernel
theorem dX9_isTurn_11 : decode cX9_isTurn 11 = Except.ok (Instr.ifCond .eq 35, 3) := by decide +kernel
theorem dX9_isTurn_14 : decode cX9_isTurn 14 = Except.ok (Instr.iload_n 1, 1) := by decide +kernel
theorem dX9_isTurn_15 : decode cX9_isTurn 15 = Except.ok (Instr.i2l, 1) := by decide +kernel
theorem dX9_isTurn_16 : decode cX9_isTurn 16 = Except.ok (Instr.ldc2_w 208, 3) := by decide +kernel
theorem dX9_isTurn_19 : decode cX9_isTurn 19 = Except.ok (Instr.ldc2_w 210, 3) := by decide +kernel
theorem dX9_isTurn_22 : decode cX9_isTurn 22 = Except.ok (Instr.invokestatic 107, 3) := by decide +kernel
theorem dX9_isTurn_25 : decode cX9_isTurn 25 = Except.ok (Instr.ifCond .eq 21, 3) := by decide +kernel
theorem dX9_isTurn_28 : decode cX9_isTurn 28 = Except.ok (Instr.iload_n 2, 1) := by decide +kernel
theorem dX9_isTurn_29 : decode cX9_isTurn 29 = Except.ok (Instr.i2l, 1) := by decide +kernel
theorem dX9_isTurn_30 : decode cX9_isTurn 30 = Except.ok (Instr.ldc2_w 208, 3) := by decide +kernel
theorem dX9_isTurn_33 : decode cX9_isTurn 33 = Except.ok (Instr.ldc2_w 210, 3) := by decide +kernel
theorem dX9_isTurn_36 : decode cX9_isTurn 36 = Except.ok (Instr.invokestatic 107, 3) := by decide +kernel
theorem dX9_isTurn_39 : decode cX9_isTurn 39 = Except.ok (Instr.ifCond .eq 7, 3) := by decide +kernel
theorem dX9_isTurn_42 : decode cX9_isTurn 42 = Except.ok (Instr.iconst 1, 1) := by decide +kernel
theorem dX9_isTurn_43 : decode cX9_isTurn 43 = Except.ok (Instr.goto 4, 3) := by decide +kernel
theorem dX9_isTurn_46 : decode cX9_isTurn 46 = Except.ok (Instr.iconst 0, 1) := by decide +kernel
theorem dX9_isTurn_47 : decode cX9_isTurn 47 = Except.ok (Instr.ireturn, 1) := by decide +kernel
theorem dX9_addSegment_0 : decode cX9_addSegment 0 = Except.ok (Instr.iload_n 1, 1) := by decide +kernel
theorem dX9_addSegment_1 : decode cX9_addSegment 1 = Except.ok (Instr.i2l, 1) := by decide +kernel
theorem dX9_addSegment_2 : decode cX9_addSegment 2 = Except.ok (Instr.lconst 1, 1) := by decide +kernel
theorem dX9_addSegment_3 : decode cX9_addSegment 3 = Except.ok (Instr.ldc2_w 194, 3) := by decide +kernel
theorem dX9_addSegment_6 : decode cX9_addSegment 6 = Except.ok (Instr.invokestatic 107, 3) := by decide +kernel
theorem dX9_addSegment_9 : decode cX9_addSegment 9 = Except.ok (Instr.ifCond .eq 13, 3) := by decide +kernel
theorem dX9_addSegment_12 : decode cX9_addSegment 12 = Except.ok (Instr.iload_n 2, 1) := by decide +kernel
theorem dX9_addSegment_13 : decode cX9_addSegment 13 = Except.ok (Instr.iload_n 3, 1) := by decide +kernel
theorem dX9_addSegment_14 : decode cX9_addSegment 14 = Except.ok (Instr.iload 4, 2) := by decide +kernel
theorem dX9_addSegment_16 : decode cX9_addSegment 16 = Except.ok (Instr.invokestatic 212, 3) := by decide +kernel
theorem dX9_addSegment_19 : decode cX9_addSegment 19 = Except.ok (Instr.ifCond .ne 6, 3) := by decide +kernel
theorem dX9_addSegment_22 : decode cX9_addSegment 22 = Except.ok (Instr.bipush (-2), 2) := by decide +kernel
theorem dX9_addSegment_24 : decode cX9_addSegment 24 = Except.ok (Instr.ireturn, 1) := by decide +kernel
theorem dX9_addSegment_25 : decode cX9_addSegment 25 = Except.ok (Instr.aload_n 0, 1) := by decide +kernel
theorem dX9_addSegment_26 : decode cX9_addSegment 26 = Except.ok (Instr.getfield 156, 3) := by decide +kernel
theorem dX9_addSegment_29 : decode cX9_addSegment 29 = Except.ok (Instr.bipush 20, 2) := by decide +kernel
theorem dX9_addSegment_31 : decode cX9_addSegment 31 = Except.ok (Instr.if_icmp .ne 6, 3) := by decide +kernel
theorem dX9_addSegment_34 : decode cX9_addSegment 34 = Except.ok (Instr.bipush (-3), 2) := by decide +kernel
theorem dX9_addSegment_36 : decode cX9_addSegment 36 = Except.ok (Instr.ireturn, 1) := by decide +kernel
theorem dX9_addSegment_37 : decode cX9_addSegment 37 = Except.ok (Instr.aload_n 0, 1) := by decide +kernel
theorem dX9_addSegment_38 : decode cX9_addSegment 38 = Except.ok (Instr.getfield 50, 3) := by decide +kernel
theorem dX9_addSegment_41 : decode cX9_addSegment 41 = Except.ok (Instr.aload_n 0, 1) := by decide +kernel
theorem dX9_addSegment_42 : decode cX9_addSegment 42 = Except.ok (Instr.getfield 156, 3) := by decide +kernel
theorem dX9_addSegment_45 : decode cX9_addSegment 45 = Except.ok (Instr.iload_n 1, 1) := by decide +kernel
theorem dX9_addSegment_46 : decode cX9_addSegment 46 = Except.ok (Instr.iastore, 1) := by decide +kernel
theorem dX9_addSegment_47 : decode cX9_addSegment 47 = Except.ok (Instr.aload_n 0, 1) := by decide +kernel
theorem dX9_addSegment_48 : decode cX9_addSegment 48 = Except.ok (Instr.getfield 53, 3) := by decide +kernel
theorem dX9_addSegment_51 : decode cX9_addSegment 51 = Except.ok (Instr.iconst 3, 1) := by decide +kernel
theorem dX9_addSegment_52 : decode cX9_addSegment 52 = Except.ok (Instr.aload_n 0, 1) := by decide +kernel
theorem dX9_addSegment_53 : decode cX9_addSegment 53 = Except.ok (Instr.getfield 156, 3) := by decide +kernel
theorem dX9_addSegment_56 : decode cX9_addSegment 56 = Except.ok (Instr.imul, 1) := by decide +kernel
theorem dX9_addSegment_57 : decode cX9_addSegment 57 = Except.ok (Instr.iload_n 2, 1) := by decide +kernel
theorem dX9_addSegment_58 : decode cX9_addSegment 58 = Except.ok (Instr.iastore, 1) := by decide +kernel
theorem dX9_addSegment_59 : decode cX9_addSegment 59 = Except.ok (Instr.aload_n 0, 1) := by decide +kernel
theorem dX9_addSegment_60 : decode cX9_addSegment 60 = Except.ok (Instr.getfield 53, 3) := by decide +kernel
theorem dX9_addSegment_63 : decode cX9_addSegment 63 = Except.ok (Instr.iconst 3, 1) := by decide +kernel
theorem dX9_addSegment_64 : decode cX9_addSegment 64 = Except.ok (Instr.aload_n 0, 1) := by decide +kernel
theorem dX9_addSegment_65 : decode cX9_addSegment 65 = Except.ok (Instr.getfield 156, 3) := by decide +kernel
theorem dX9_addSegment_68 : decode cX9_addSegment 68 = Except.ok (Instr.imul, 1) := by decide +kernel
theorem dX9_addSegment_69 : decode cX9_addSegment 69 = Except.ok (Instr.iconst 1, 1) := by decide +kernel
theorem dX9_addSegment_70 : decode cX9_addSegment 70 = Except.ok (Instr.iadd, 1) := by decide +kernel
theorem dX9_addSegment_71 : decode cX9_addSegment 71 = Except.ok (Instr.iload_n 3, 1) := by decide +kernel
theorem dX9_addSegment_72 : decode cX9_addSegment 72 = Except.ok (Instr.iastore, 1) := by decide +kernel
theorem dX9_addSegment_73 : decode cX9_addSegment 73 = Except.ok (Instr.aload_n 0, 1) := by decide +kernel
theorem dX9_addSegment_74 : decode cX9_addSegment 74 = Except.ok (Instr.getfield 53, 3) := by decide +kernel
theorem dX9_addSegment_77 : decode cX9_addSegment 77 = Except.ok (Instr.iconst 3, 1) := by decide +kernel
theorem dX9_addSegment_78 : decode cX9_addSegment 78 = Except.ok (Instr.aload_n 0, 1) := by decide +kernel
theorem dX9_addSegment_79 : decode cX9_addSegment 79 = Except.ok (Instr.getfield 156, 3) := by decide +kernel
theorem dX9_addSegment_82 : decode cX9_addSegment 82 = Except.ok (Instr.imul, 1) := by decide +kernel
theorem dX9_addSegment_83 : decode cX9_addSegment 83 = Except.ok (Instr.iconst 2, 1) := by decide +kernel
theorem dX9_addSegment_84 : decode cX9_addSegment 84 = Except.ok (Instr.iadd, 1) := by decide +kernel
theorem dX9_addSegment_85 : decode cX9_addSegment 85 = Except.ok (Instr.iload 4, 2) := by decide +kernel
theorem dX9_addSegment_87 : decode cX9_addSegment 87 = Except.ok (Instr.iastore, 1) := by decide +kernel
theorem dX9_addSegment_88 : decode cX9_addSegment 88 = Except.ok (Instr.aload_n 0, 1) := by decide +kernel
theorem dX9_addSegment_89 : decode cX9_addSegment 89 = Except.ok (Instr.dup, 1) := by decide +kernel
theorem dX9_addSegment_90 : decode cX9_addSegment 90 = Except.ok (Instr.getfield 156, 3) := by decide +kernel
theorem dX9_addSegment_93 : decode cX9_addSegment 93 = Except.ok (Instr.iconst 1, 1) := by decide +kernel
theorem dX9_addSegment_94 : decode cX9_addSegment 94 = Except.ok (Instr.iadd, 1) := by decide +kernel
theorem dX9_addSegment_95 : decode cX9_addSegment 95 = Except.ok (Instr.putfield 156, 3) := by decide +kernel
theorem dX9_addSegment_98 : decode cX9_addSegment 98 = Except.ok (Instr.aload_n 0, 1) := by decide +kernel
theorem dX9_addSegment_99 : decode cX9_addSegment 99 = Except.ok (Instr.getfield 156, 3) := by decide +kernel
theorem dX9_addSegment_102 : decode cX9_addSegment 102 = Except.ok (Instr.ireturn, 1) := by decide +kernel
theorem dX9_clearScript_0 : decode cX9_clearScript 0 = Except.ok (Instr.aload_n 0, 1) := by decide +kernel
theorem dX9_clearScript_1 : decode cX9_clearScript 1 = Except.ok (Instr.getfield 156, 3) := by decide +kernel
theorem dX9_clearScript_4 : decode cX9_clearScript 4 = Except.ok (Instr.istore_n 1, 1) := by decide +kernel
theorem dX9_clearScript_5 : decode cX9_clearScript 5 = Except.ok (Instr.aload_n 0, 1) := by decide +kernel
theorem dX9_clearScript_6 : decode cX9_clearScript 6 = Except.ok (Instr.iconst 0, 1) := by decide +kernel
theorem dX9_clearScript_7 : decode cX9_clearScript 7 = Except.ok (Instr.putfield 156, 3) := by decide +kernel
theorem dX9_clearScript_10 : decode cX9_clearScript 10 = Except.ok (Instr.iload_n 1, 1) := by decide +kernel
theorem dX9_clearScript_11 : decode cX9_clearScript 11 = Except.ok (Instr.ireturn, 1) := by decide +kernel
theorem dX9_scriptTicks_0 : decode cX9_scriptTicks 0 = Except.ok (Instr.iconst 0, 1) := by decide +kernel
theorem dX9_scriptTicks_1 : decode cX9_scriptTicks 1 = Except.ok (Instr.istore_n 1, 1) := by decide +kernel
theorem dX9_scriptTicks_2 : decode cX9_scriptTicks 2 = Except.ok (Instr.iconst 0, 1) := by decide +kernel
theorem dX9_scriptTicks_3 : decode cX9_scriptTicks 3 = Except.ok (Instr.istore_n 2, 1) := by decide +kernel
theorem dX9_scriptTicks_4 : decode cX9_scriptTicks 4 = Except.ok (Instr.iload_n 2, 1) := by decide +kernel
theorem dX9_scriptTicks_5 : decode cX9_scriptTicks 5 = Except.ok (Instr.aload_n 0, 1) := by decide +kernel
theorem dX9_scriptTicks_6 : decode cX9_scriptTicks 6 = Except.ok (Instr.getfield 156, 3) := by decide +kernel
theorem dX9_scriptTicks_9 : decode cX9_scriptTicks 9 = Except.ok (Instr.if_icmp .ge 18, 3) := by decide +kernel
theorem dX9_scriptTicks_12 : decode cX9_scriptTicks 12 = Except.ok (Instr.iload_n 1, 1) := by decide +kernel
theorem dX9_scriptTicks_13 : decode cX9_scriptTicks 13 = Except.ok (Instr.aload_n 0, 1) := by decide +kernel
theorem dX9_scriptTicks_14 : decode cX9_scriptTicks 14 = Except.ok (Instr.getfield 50, 3) := by decide +kernel
theorem dX9_scriptTicks_17 : decode cX9_scriptTicks 17 = Except.ok (Instr.iload_n 2, 1) := by decide +kernel
theorem dX9_scriptTicks_18 : decode cX9_scriptTicks 18 = Except.ok (Instr.iaload, 1) := by decide +kernel
theorem dX9_scriptTicks_19 : decode cX9_scriptTicks 19 = Except.ok (Instr.iadd, 1) := by decide +kernel
theorem dX9_scriptTicks_20 : decode cX9_scriptTicks 20 = Except.ok (Instr.istore_n 1, 1) := by decide +kernel
theorem dX9_scriptTicks_21 : decode cX9_scriptTicks 21 = Except.ok (Instr.iinc 2 1, 3) := by decide +kernel
theorem dX9_scriptTicks_24 : decode cX9_scriptTicks 24 = Except.ok (Instr.goto (-20), 3) := by decide +kernel
theorem dX9_scriptTicks_27 : decode cX9_scriptTicks 27 = Except.ok (Instr.iload_n 1, 1) := by decide +kernel
theorem dX9_scriptTicks_28 : decode cX9_scriptTicks 28 = Except.ok (Instr.ireturn, 1) := by decide +kernel
theorem dX9_turnTruth_0 : decode cX9_turnTruth 0 = Except.ok (Instr.iload_n 1, 1) := by decide +kernel
theorem dX9_turnTruth_1 : decode cX9_turnTruth 1 = Except.ok (Instr.iload_n 2, 1) := by decide +kernel
theorem dX9_turnTruth_2 : decode cX9_turnTruth 2 = Except.ok (Instr.iload_n 3, 1) := by decide +kernel
theorem dX9_turnTruth_3 : decode cX9_turnTruth 3 = Except.ok (Instr.invokestatic 212, 3) := by decide +kernel
theorem dX9_turnTruth_6 : decode cX9_turnTruth 6 = Except.ok (Instr.ifCond .ne 6, 3) := by decide +kernel
theorem dX9_turnTruth_9 : decode cX9_turnTruth 9 = Except.ok (Instr.bipush (-2), 2) := by decide +kernel
theorem dX9_turnTruth_11 : decode cX9_turnTruth 11 = Except.ok (Instr.ireturn, 1) := by decide +kernel
theorem dX9_turnTruth_12 : decode cX9_turnTruth 12 = Except.ok (Instr.aload_n 0, 1) := by decide +kernel
theorem dX9_turnTruth_13 : decode cX9_turnTruth 13 = Except.ok (Instr.aload_n 0, 1) := by decide +kernel
theorem dX9_turnTruth_14 : decode cX9_turnTruth 14 = Except.ok (Instr.getfield 7, 3) := by decide +kernel
theorem dX9_turnTruth_17 : decode cX9_turnTruth 17 = Except.ok (Instr.iload_n 1, 1) := by decide +kernel
theorem dX9_turnTruth_18 : decode cX9_turnTruth 18 = Except.ok (Instr.i2l, 1) := by decide +kernel
theorem dX9_turnTruth_19 : decode cX9_turnTruth 19 = Except.ok (Instr.iload_n 2, 1) := by decide +kernel
theorem dX9_turnTruth_20 : decode cX9_turnTruth 20 = Except.ok (Instr.i2l, 1) := by decide +kernel
theorem dX9_turnTruth_21 : decode cX9_turnTruth 21 = Except.ok (Instr.iload_n 3, 1) := by decide +kernel
theorem dX9_turnTruth_22 : decode cX9_turnTruth 22 = Except.ok (Instr.i2l, 1) := by decide +kernel
theorem dX9_turnTruth_23 : decode cX9_turnTruth 23 = Except.ok (Instr.iconst 0, 1) := by decide +kernel
theorem dX9_turnTruth_24 : decode cX9_turnTruth 24 = Except.ok (Instr.invokevirtual 216, 3) := by decide +kernel
theorem dX9_turnTruth_27 : decode cX9_turnTruth 27 = Except.ok (Instr.iconst 0, 1) := by decide +kernel
theorem dX9_turnTruth_28 : decode cX9_turnTruth 28 = Except.ok (Instr.ireturn, 1) := by decide +kernel
theorem dX9_removeSegment_0 : decode cX9_removeSegment 0 = Except.ok (Instr.aload_n 0, 1) := by decide +kernel
theorem dX9_removeSegment_1 : decode cX9_removeSegment 1 = Except.ok (Instr.dup, 1) := by decide +kernel
theorem dX9_removeSegment_2 : decode cX9_removeSegment 2 = Except.ok (Instr.getfield 156, 3) := by decide +kernel
theorem dX9_removeSegment_5 : decode cX9_removeSegment 5 = Except.ok (Instr.iconst 1, 1) := by decide +kernel
theorem dX9_removeSegment_6 : decode cX9_removeSegment 6 = Except.ok (Instr.isub, 1) := by decide +kernel
theorem dX9_removeSegment_7 : decode cX9_removeSegment 7 = Except.ok (Instr.putfield 156, 3) := by decide +kernel
theorem dX9_removeSegment_10 : decode cX9_removeSegment 10 = Except.ok (Instr.iconst 0, 1) := by decide +kernel
theorem dX9_removeSegment_11 : decode cX9_removeSegment 11 = Except.ok (Instr.istore_n 1, 1) := by decide +kernel
theorem dX9_removeSegment_12 : decode cX9_removeSegment 12 = Except.ok (Instr.iload_n 1, 1) := by decide +kernel
theorem dX9_removeSegment_13 : decode cX9_removeSegment 13 = Except.ok (Instr.aload_n 0, 1) := by decide +kernel
theorem dX9_removeSegment_14 : decode cX9_removeSegment 14 = Except.ok (Instr.getfield 156, 3) := by decide +kernel
theorem dX9_removeSegment_17 : decode cX9_removeSegment 17 = Except.ok (Instr.if_icmp .ge 23, 3) := by decide +kernel
theorem dX9_removeSegment_20 : decode cX9_removeSegment 20 = Except.ok (Instr.aload_n 0, 1) := by decide +kernel
theorem dX9_removeSegment_21 : decode cX9_removeSegment 21 = Except.ok (Instr.getfield 50, 3) := by decide +kernel
theorem dX9_removeSegment_24 : decode cX9_removeSegment 24 = Except.ok (Instr.iload_n 1, 1) := by decide +kernel
theorem dX9_removeSegment_25 : decode cX9_removeSegment 25 = Except.ok (Instr.aload_n 0, 1) := by decide +kernel
theorem dX9_removeSegment_26 : decode cX9_removeSegment 26 = Except.ok (Instr.getfield 50, 3) := by decide +kernel
theorem dX9_removeSegment_29 : decode cX9_removeSegment 29 = Except.ok (Instr.iload_n 1, 1) := by decide +kernel
theorem dX9_removeSegment_30 : decode cX9_removeSegment 30 = Except.ok (Instr.iconst 1, 1) := by decide +kernel
theorem dX9_removeSegment_31 : decode cX9_removeSegment 31 = Except.ok (Instr.iadd, 1) := by decide +kernel
theorem dX9_removeSegment_32 : decode cX9_removeSegment 32 = Except.ok (Instr.iaload, 1) := by decide +kernel
theorem dX9_removeSegment_33 : decode cX9_removeSegment 33 = Except.ok (Instr.iastore, 1) := by decide +kernel
theorem dX9_removeSegment_34 : decode cX9_removeSegment 34 = Except.ok (Instr.iinc 1 1, 3) := by decide +kernel
theorem dX9_removeSegment_37 : decode cX9_removeSegment 37 = Except.ok (Instr.goto (-25), 3) := by decide +kernel
theorem dX9_removeSegment_40 : decode cX9_removeSegment 40 = Except.ok (Instr.iconst 0, 1) := by decide +kernel
theorem dX9_removeSegment_41 : decode cX9_removeSegment 41 = Except.ok (Instr.istore_n 1, 1) := by decide +kernel
theorem dX9_removeSegment_42 : decode cX9_removeSegment 42 = Except.ok (Instr.iload_n 1, 1) := by decide +kernel
theorem dX9_removeSegment_43 : decode cX9_removeSegment 43 = Except.ok (Instr.iconst 3, 1) := by decide +kernel
theorem dX9_removeSegment_44 : decode cX9_removeSegment 44 = Except.ok (Instr.aload_n 0, 1) := by decide +kernel
theorem dX9_removeSegment_45 : decode cX9_removeSegment 45 = Except.ok (Instr.getfield 156, 3) := by decide +kernel
theorem dX9_removeSegment_48 : decode cX9_removeSegment 48 = Except.ok (Instr.imul, 1) := by decide +kernel
theorem dX9_removeSegment_49 : decode cX9_removeSegment 49 = Except.ok (Instr.if_icmp .ge 23, 3) := by decide +kernel
theorem dX9_removeSegment_52 : decode cX9_removeSegment 52 = Except.ok (Instr.aload_n 0, 1) := by decide +kernel
theorem dX9_removeSegment_53 : decode cX9_removeSegment 53 = Except.ok (Instr.getfield 53, 3) := by decide +kernel
theorem dX9_removeSegment_56 : decode cX9_removeSegment 56 = Except.ok (Instr.iload_n 1, 1) := by decide +kernel
theorem dX9_removeSegment_57 : decode cX9_removeSegment 57 = Except.ok (Instr.aload_n 0, 1) := by decide +kernel
theorem dX9_removeSegment_58 : decode cX9_removeSegment 58 = Except.ok (Instr.getfield 53, 3) := by decide +kernel
theorem dX9_removeSegment_61 : decode cX9_removeSegment 61 = Except.ok (Instr.iload_n 1, 1) := by decide +kernel
theorem dX9_removeSegment_62 : decode cX9_removeSegment 62 = Except.ok (Instr.iconst 3, 1) := by decide +kernel
theorem dX9_removeSegment_63 : decode cX9_removeSegment 63 = Except.ok (Instr.iadd, 1) := by decide +kernel
theorem dX9_removeSegment_64 : decode cX9_removeSegment 64 = Except.ok (Instr.iaload, 1) := by decide +kernel
theorem dX9_removeSegment_65 : decode cX9_removeSegment 65 = Except.ok (Instr.iastore, 1) := by decide +kernel
theorem dX9_removeSegment_66 : decode cX9_removeSegment 66 = Except.ok (Instr.iinc 1 1, 3) := by decide +kernel
theorem dX9_removeSegment_69 : decode cX9_removeSegment 69 = Except.ok (Instr.goto (-27), 3) := by decide +kernel
theorem dX9_removeSegment_72 : decode cX9_removeSegment 72 = Except.ok (Instr.return_, 1) := by decide +kernel
theorem dX9_below_0 : decode cX9_below 0 = Except.ok (Instr.aload_n 0, 1) := by decide +kernel
theorem dX9_below_1 : decode cX9_below 1 = Except.ok (Instr.aload_n 0, 1) := by decide +kernel
theorem dX9_below_2 : decode cX9_below 2 = Except.ok (Instr.getfield 150, 3) := by decide +kernel
theorem dX9_below_5 : decode cX9_below 5 = Except.ok (Instr.ldc 220, 2) := by decide +kernel
theorem dX9_below_7 : decode cX9_below 7 = Except.ok (Instr.imul, 1) := by decide +kernel
theorem dX9_below_8 : decode cX9_below 8 = Except.ok (Instr.sipush 12345, 3) := by decide +kernel
theorem dX9_below_11 : decode cX9_below 11 = Except.ok (Instr.iadd, 1) := by decide +kernel
theorem dX9_below_12 : decode cX9_below 12 = Except.ok (Instr.putfield 150, 3) := by decide +kernel
theorem dX9_below_15 : decode cX9_below 15 = Except.ok (Instr.aload_n 0, 1) := by decide +kernel
theorem dX9_below_16 : decode cX9_below 16 = Except.ok (Instr.getfield 150, 3) := by decide +kernel
theorem dX9_below_19 : decode cX9_below 19 = Except.ok (Instr.bipush 16, 2) := by decide +kernel
theorem dX9_below_21 : decode cX9_below 21 = Except.ok (Instr.iushr, 1) := by decide +kernel
theorem dX9_below_22 : decode cX9_below 22 = Except.ok (Instr.iload_n 1, 1) := by decide +kernel
theorem dX9_below_23 : decode cX9_below 23 = Except.ok (Instr.irem, 1) := by decide +kernel
theorem dX9_below_24 : decode cX9_below 24 = Except.ok (Instr.ireturn, 1) := by decide +kernel
theorem dX9_bin_0 : decode cX9_bin 0 = Except.ok (Instr.aload_n 0, 1) := by decide +kernel
theorem dX9_bin_1 : decode cX9_bin 1 = Except.ok (Instr.getfield 146, 3) := by decide +kernel
theorem dX9_bin_4 : decode cX9_bin 4 = Except.ok (Instr.i2l, 1) := by decide +kernel
theorem dX9_bin_5 : decode cX9_bin 5 = Except.ok (Instr.ldc2_w 221, 3) := by decide +kernel
theorem dX9_bin_8 : decode cX9_bin 8 = Except.ok (Instr.invokestatic 134, 3) := by decide +kernel
theorem dX9_bin_11 : decode cX9_bin 11 = Except.ok (Instr.l2i, 1) := by decide +kernel
theorem dX9_bin_12 : decode cX9_bin 12 = Except.ok (Instr.bipush (-4), 2) := by decide +kernel
theorem dX9_bin_14 : decode cX9_bin 14 = Except.ok (Instr.isub, 1) := by decide +kernel
theorem dX9_bin_15 : decode cX9_bin 15 = Except.ok (Instr.ireturn, 1) := by decide +kernel
theorem dX9_reads_0 : decode cX9_reads 0 = Except.ok (Instr.aload_n 0, 1) := by decide +kernel
theorem dX9_reads_1 : decode cX9_reads 1 = Except.ok (Instr.aload_n 0, 1) := by decide +kernel
theorem dX9_reads_2 : decode cX9_reads 2 = Except.ok (Instr.getfield 7, 3) := by decide +kernel
theorem dX9_reads_5 : decode cX9_reads 5 = Except.ok (Instr.invokevirtual 223, 3) := by decide +kernel
theorem dX9_reads_8 : decode cX9_reads 8 = Except.ok (Instr.iconst 0, 1) := by decide +kernel
theorem dX9_reads_9 : decode cX9_reads 9 = Except.ok (Instr.istore_n 1, 1) := by decide +kernel
theorem dX9_reads_10 : decode cX9_reads 10 = Except.ok (Instr.iload_n 1, 1) := by decide +kernel
theorem dX9_reads_11 : decode cX9_reads 11 = Except.ok (Instr.iconst 3, 1) := by decide +kernel
theorem dX9_reads_12 : decode cX9_reads 12 = Except.ok (Instr.if_icmp .ge 117, 3) := by decide +kernel
theorem dX9_reads_15 : decode cX9_reads 15 = Except.ok (Instr.aload_n 0, 1) := by decide +kernel
theorem dX9_reads_16 : decode cX9_reads 16 = Except.ok (Instr.getfield 62, 3) := by decide +kernel
theorem dX9_reads_19 : decode cX9_reads 19 = Except.ok (Instr.iload_n 1, 1) := by decide +kernel
theorem dX9_reads_20 : decode cX9_reads 20 = Except.ok (Instr.laload, 1) := by decide +kernel
theorem dX9_reads_21 : decode cX9_reads 21 = Except.ok (Instr.aload_n 0, 1) := by decide +kernel
theorem dX9_reads_22 : decode cX9_reads 22 = Except.ok (Instr.getfield 25, 3) := by decide +kernel
theorem dX9_reads_25 : decode cX9_reads 25 = Except.ok (Instr.iload_n 1, 1) := by decide +kernel
theorem dX9_reads_26 : decode cX9_reads 26 = Except.ok (Instr.laload, 1) := by decide +kernel
theorem dX9_reads_27 : decode cX9_reads 27 = Except.ok (Instr.ladd, 1) := by decide +kernel
theorem dX9_reads_28 : decode cX9_reads 28 = Except.ok (Instr.lstore_n 2, 1) := by decide +kernel
theorem dX9_reads_29 : decode cX9_reads 29 = Except.ok (Instr.aload_n 0, 1) := by decide +kernel
theorem dX9_reads_30 : decode cX9_reads 30 = Except.ok (Instr.getfield 41, 3) := by decide +kernel
theorem dX9_reads_33 : decode cX9_reads 33 = Except.ok (Instr.iload_n 1, 1) := by decide +kernel
theorem dX9_reads_34 : decode cX9_reads 34 = Except.ok (Instr.iaload, 1) := by decide +kernel
theorem dX9_reads_35 : decode cX9_reads 35 = Except.ok (Instr.ifCond .ne 7, 3) := by decide +kernel
theorem dX9_reads_38 : decode cX9_reads 38 = Except.ok (Instr.lconst 0, 1) := by decide +kernel
theorem dX9_reads_39 : decode cX9_reads 39 = Except.ok (Instr.goto 25, 3) := by decide +kernel
theorem dX9_reads_42 : decode cX9_reads 42 = Except.ok (Instr.aload_n 0, 1) := by decide +kernel
theorem dX9_reads_43 : decode cX9_reads 43 = Except.ok (Instr.iconst 2, 1) := by decide +kernel
theorem dX9_reads_44 : decode cX9_reads 44 = Except.ok (Instr.aload_n 0, 1) := by decide +kernel
theorem dX9_reads_45 : decode cX9_reads 45 = Except.ok (Instr.getfield 41, 3) := by decide +kernel
theorem dX9_reads_48 : decode cX9_reads 48 = Except.ok (Instr.iload_n 1, 1) := by decide +kernel
theorem dX9_reads_49 : decode cX9_reads 49 = Except.ok (Instr.iaload, 1) := by decide +kernel
theorem dX9_reads_50 : decode cX9_reads 50 = Except.ok (Instr.imul, 1) := by decide +kernel
theorem dX9_reads_51 : decode cX9_reads 51 = Except.ok (Instr.iconst 1, 1) := by decide +kernel
theorem dX9_reads_52 : decode cX9_reads 52 = Except.ok (Instr.iadd, 1) := by decide +kernel
theorem dX9_reads_53 : decode cX9_reads 53 = Except.ok (Instr.invokevirtual 226, 3) := by decide +kernel
theorem dX9_reads_56 : decode cX9_reads 56 = Except.ok (Instr.aload_n 0, 1) := by decide +kernel
theorem dX9_reads_57 : decode cX9_reads 57 = Except.ok (Instr.getfield 41, 3) := by decide +kernel
theorem dX9_reads_60 : decode cX9_reads 60 = Except.ok (Instr.iload_n 1, 1) := by decide +kernel
theorem dX9_reads_61 : decode cX9_reads 61 = Except.ok (Instr.iaload, 1) := by decide +kernel
theorem dX9_reads_62 : decode cX9_reads 62 = Except.ok (Instr.isub, 1) := by decide +kernel
theorem dX9_reads_63 : decode cX9_reads 63 = Except.ok (Instr.i2l, 1) := by decide +kernel
theorem dX9_reads_64 : decode cX9_reads 64 = Except.ok (Instr.lstore 4, 2) := by decide +kernel
theorem dX9_reads_66 : decode cX9_reads 66 = Except.ok (Instr.aload_n 0, 1) := by decide +kernel
theorem dX9_reads_67 : decode cX9_reads 67 = Except.ok (Instr.getfield 56, 3) := by decide +kernel
theorem dX9_reads_70 : decode cX9_reads 70 = Except.ok (Instr.iload_n 1, 1) := by decide +kernel
theorem dX9_reads_71 : decode cX9_reads 71 = Except.ok (Instr.lload_n 2, 1) := by decide +kernel
theorem dX9_reads_72 : decode cX9_reads 72 = Except.ok (Instr.lload_n 2, 1) := by decide +kernel
theorem dX9_reads_73 : decode cX9_reads 73 = Except.ok (Instr.aload_n 0, 1) := by decide +kernel
theorem dX9_reads_74 : decode cX9_reads 74 = Except.ok (Instr.getfield 38, 3) := by decide +kernel
theorem dX9_reads_77 : decode cX9_reads 77 = Except.ok (Instr.iload_n 1, 1) := by decide +kernel
theorem dX9_reads_78 : decode cX9_reads 78 = Except.ok (Instr.iaload, 1) := by decide +kernel
theorem dX9_reads_79 : decode cX9_reads 79 = Except.ok (Instr.i2l, 1) := by decide +kernel
theorem dX9_reads_80 : decode cX9_reads 80 = Except.ok (Instr.lmul, 1) := by decide +kernel
theorem dX9_reads_81 : decode cX9_reads 81 = Except.ok (Instr.ldc2_w 230, 3) := by decide +kernel
theorem dX9_reads_84 : decode cX9_reads 84 = Except.ok (Instr.invokestatic 134, 3) := by decide +kernel
theorem dX9_reads_87 : decode cX9_reads 87 = Except.ok (Instr.ladd, 1) := by decide +kernel
theorem dX9_reads_88 : decode cX9_reads 88 = Except.ok (Instr.aload_n 0, 1) := by decide +kernel
theorem dX9_reads_89 : decode cX9_reads 89 = Except.ok (Instr.getfield 34, 3) := by decide +kernel
theorem dX9_reads_92 : decode cX9_reads 92 = Except.ok (Instr.iload_n 1, 1) := by decide +kernel
theorem dX9_reads_93 : decode cX9_reads 93 = Except.ok (Instr.iaload, 1) := by decide +kernel
theorem dX9_reads_94 : decode cX9_reads 94 = Except.ok (Instr.i2l, 1) := by decide +kernel
theorem dX9_reads_95 : decode cX9_reads 95 = Except.ok (Instr.ladd, 1) := by decide +kernel
theorem dX9_reads_96 : decode cX9_reads 96 = Except.ok (Instr.aload_n 0, 1) := by decide +kernel
theorem dX9_reads_97 : decode cX9_reads 97 = Except.ok (Instr.getfield 44, 3) := by decide +kernel
theorem dX9_reads_100 : decode cX9_reads 100 = Except.ok (Instr.iload_n 1, 1) := by decide +kernel
theorem dX9_reads_101 : decode cX9_reads 101 = Except.ok (Instr.iaload, 1) := by decide +kernel
theorem dX9_reads_102 : decode cX9_reads 102 = Except.ok (Instr.i2l, 1) := by decide +kernel
theorem dX9_reads_103 : decode cX9_reads 103 = Except.ok (Instr.aload_n 0, 1) := by decide +kernel
theorem dX9_reads_104 : decode cX9_reads 104 = Except.ok (Instr.getfield 146, 3) := by decide +kernel
theorem dX9_reads_107 : decode cX9_reads 107 = Except.ok (Instr.bipush 25, 2) := by decide +kernel
theorem dX9_reads_109 : decode cX9_reads 109 = Except.ok (Instr.isub, 1) := by decide +kernel
theorem dX9_reads_110 : decode cX9_reads 110 = Except.ok (Instr.i2l, 1) := by decide +kernel
theorem dX9_reads_111 : decode cX9_reads 111 = Except.ok (Instr.lmul, 1) := by decide +kernel
theorem dX9_reads_112 : decode cX9_reads 112 = Except.ok (Instr.ldc2_w 221, 3) := by decide +kernel
theorem dX9_reads_115 : decode cX9_reads 115 = Except.ok (Instr.invokestatic 134, 3) := by decide +kernel
theorem dX9_reads_118 : decode cX9_reads 118 = Except.ok (Instr.ladd, 1) := by decide +kernel
theorem dX9_reads_119 : decode cX9_reads 119 = Except.ok (Instr.lload 4, 2) := by decide +kernel
theorem dX9_reads_121 : decode cX9_reads 121 = Except.ok (Instr.ladd, 1) := by decide +kernel
theorem dX9_reads_122 : decode cX9_reads 122 = Except.ok (Instr.lastore, 1) := by decide +kernel
theorem dX9_reads_123 : decode cX9_reads 123 = Except.ok (Instr.iinc 1 1, 3) := by decide +kernel
theorem dX9_reads_126 : decode cX9_reads 126 = Except.ok (Instr.goto (-116), 3) := by decide +kernel
theorem dX9_reads_129 : decode cX9_reads 129 = Except.ok (Instr.aload_n 0, 1) := by decide +kernel
theorem dX9_reads_130 : decode cX9_reads 130 = Except.ok (Instr.aload_n 0, 1) := by decide +kernel
theorem dX9_reads_131 : decode cX9_reads 131 = Except.ok (Instr.getfield 7, 3) := by decide +kernel
theorem dX9_reads_134 : decode cX9_reads 134 = Except.ok (Instr.aload_n 0, 1) := by decide +kernel
theorem dX9_reads_135 : decode cX9_reads 135 = Except.ok (Instr.getfield 62, 3) := by decide +kernel
theorem dX9_reads_138 : decode cX9_reads 138 = Except.ok (Instr.iconst 0, 1) := by decide +kernel
theorem dX9_reads_139 : decode cX9_reads 139 = Except.ok (Instr.laload, 1) := by decide +kernel
theorem dX9_reads_140 : decode cX9_reads 140 = Except.ok (Instr.aload_n 0, 1) := by decide +kernel
theorem dX9_reads_141 : decode cX9_reads 141 = Except.ok (Instr.getfield 62, 3) := by decide +kernel
theorem dX9_reads_144 : decode cX9_reads 144 = Except.ok (Instr.iconst 1, 1) := by decide +kernel
theorem dX9_reads_145 : decode cX9_reads 145 = Except.ok (Instr.laload, 1) := by decide +kernel
theorem dX9_reads_146 : decode cX9_reads 146 = Except.ok (Instr.aload_n 0, 1) := by decide +kernel
theorem dX9_reads_147 : decode cX9_reads 147 = Except.ok (Instr.getfield 62, 3) := by decide +kernel
theorem dX9_reads_150 : decode cX9_reads 150 = Except.ok (Instr.iconst 2, 1) := by decide +kernel
theorem dX9_reads_151 : decode cX9_reads 151 = Except.ok (Instr.laload, 1) := by decide +kernel
theorem dX9_reads_152 : decode cX9_reads 152 = Except.ok (Instr.iconst 0, 1) := by decide +kernel
theorem dX9_reads_153 : decode cX9_reads 153 = Except.ok (Instr.invokevirtual 216, 3) := by decide +kernel
theorem dX9_reads_156 : decode cX9_reads 156 = Except.ok (Instr.aload_n 0, 1) := by decide +kernel
theorem dX9_reads_157 : decode cX9_reads 157 = Except.ok (Instr.aload_n 0, 1) := by decide +kernel
theorem dX9_reads_158 : decode cX9_reads 158 = Except.ok (Instr.getfield 7, 3) := by decide +kernel
theorem dX9_reads_161 : decode cX9_reads 161 = Except.ok (Instr.invokevirtual 232, 3) := by decide +kernel
theorem dX9_reads_164 : decode cX9_reads 164 = Except.ok (Instr.iconst 0, 1) := by decide +kernel
theorem dX9_reads_165 : decode cX9_reads 165 = Except.ok (Instr.istore_n 1, 1) := by decide +kernel
theorem dX9_reads_166 : decode cX9_reads 166 = Except.ok (Instr.iload_n 1, 1) := by decide +kernel
theorem dX9_reads_167 : decode cX9_reads 167 = Except.ok (Instr.iconst 3, 1) := by decide +kernel
theorem dX9_reads_168 : decode cX9_reads 168 = Except.ok (Instr.if_icmp .ge 29, 3) := by decide +kernel
theorem dX9_reads_171 : decode cX9_reads 171 = Except.ok (Instr.aload_n 0, 1) := by decide +kernel
theorem dX9_reads_172 : decode cX9_reads 172 = Except.ok (Instr.getfield 59, 3) := by decide +kernel
theorem dX9_reads_175 : decode cX9_reads 175 = Except.ok (Instr.iload_n 1, 1) := by decide +kernel
theorem dX9_reads_176 : decode cX9_reads 176 = Except.ok (Instr.aload_n 0, 1) := by decide +kernel
theorem dX9_reads_177 : decode cX9_reads 177 = Except.ok (Instr.getfield 25, 3) := by decide +kernel
theorem dX9_reads_180 : decode cX9_reads 180 = Except.ok (Instr.iload_n 1, 1) := by decide +kernel
theorem dX9_reads_181 : decode cX9_reads 181 = Except.ok (Instr.laload, 1) := by decide +kernel
theorem dX9_reads_182 : decode cX9_reads 182 = Except.ok (Instr.aload_n 0, 1) := by decide +kernel
theorem dX9_reads_183 : decode cX9_reads 183 = Except.ok (Instr.getfield 47, 3) := by decide +kernel
theorem dX9_reads_186 : decode cX9_reads 186 = Except.ok (Instr.iload_n 1, 1) := by decide +kernel
theorem dX9_reads_187 : decode cX9_reads 187 = Except.ok (Instr.iaload, 1) := by decide +kernel
theorem dX9_reads_188 : decode cX9_reads 188 = Except.ok (Instr.i2l, 1) := by decide +kernel
theorem dX9_reads_189 : decode cX9_reads 189 = Except.ok (Instr.ladd, 1) := by decide +kernel
theorem dX9_reads_190 : decode cX9_reads 190 = Except.ok (Instr.lastore, 1) := by decide +kernel
theorem dX9_reads_191 : decode cX9_reads 191 = Except.ok (Instr.iinc 1 1, 3) := by decide +kernel
theorem dX9_reads_194 : decode cX9_reads 194 = Except.ok (Instr.goto (-28), 3) := by decide +kernel
theorem dX9_reads_197 : decode cX9_reads 197 = Except.ok (Instr.return_, 1) := by decide +kernel
theorem dX9_propagates_0 : decode cX9_propagates 0 = Except.ok (Instr.iconst 0, 1) := by decide +kernel
theorem dX9_propagates_1 : decode cX9_propagates 1 = Except.ok (Instr.istore_n 1, 1) := by decide +kernel
theorem dX9_propagates_2 : decode cX9_propagates 2 = Except.ok (Instr.iload_n 1, 1) := by decide +kernel
theorem dX9_propagates_3 : decode cX9_propagates 3 = Except.ok (Instr.iconst 3, 1) := by decide +kernel
theorem dX9_propagates_4 : decode cX9_propagates 4 = Except.ok (Instr.if_icmp .ge 58, 3) := by decide +kernel
theorem dX9_propagates_7 : decode cX9_propagates 7 = Except.ok (Instr.aload_n 0, 1) := by decide +kernel
theorem dX9_propagates_8 : decode cX9_propagates 8 = Except.ok (Instr.getfield 56, 3) := by decide +kernel
theorem dX9_propagates_11 : decode cX9_propagates 11 = Except.ok (Instr.iload_n 1, 1) := by decide +kernel
theorem dX9_propagates_12 : decode cX9_propagates 12 = Except.ok (Instr.laload, 1) := by decide +kernel
theorem dX9_propagates_13 : decode cX9_propagates 13 = Except.ok (Instr.aload_n 0, 1) := by decide +kernel
theorem dX9_propagates_14 : decode cX9_propagates 14 = Except.ok (Instr.iload_n 1, 1) := by decide +kernel
theorem dX9_propagates_15 : decode cX9_propagates 15 = Except.ok (Instr.aload_n 0, 1) := by decide +kernel
theorem dX9_propagates_16 : decode cX9_propagates 16 = Except.ok (Instr.invokevirtual 235, 3) := by decide +kernel
theorem dX9_propagates_19 : decode cX9_propagates 19 = Except.ok (Instr.invokevirtual 239, 3) := by decide +kernel
theorem dX9_propagates_22 : decode cX9_propagates 22 = Except.ok (Instr.i2l, 1) := by decide +kernel
theorem dX9_propagates_23 : decode cX9_propagates 23 = Except.ok (Instr.lsub, 1) := by decide +kernel
theorem dX9_propagates_24 : decode cX9_propagates 24 = Except.ok (Instr.lstore_n 2, 1) := by decide +kernel
theorem dX9_propagates_25 : decode cX9_propagates 25 = Except.ok (Instr.aload_n 0, 1) := by decide +kernel
theorem dX9_propagates_26 : decode cX9_propagates 26 = Except.ok (Instr.getfield 168, 3) := by decide +kernel
theorem dX9_propagates_29 : decode cX9_propagates 29 = Except.ok (Instr.ifCond .le 13, 3) := by decide +kernel
theorem dX9_propagates_32 : decode cX9_propagates 32 = Except.ok (Instr.aload_n 0, 1) := by decide +kernel
theorem dX9_propagates_33 : decode cX9_propagates 33 = Except.ok (Instr.getfield 74, 3) := by decide +kernel
theorem dX9_propagates_36 : decode cX9_propagates 36 = Except.ok (Instr.iload_n 1, 1) := by decide +kernel
theorem dX9_propagates_37 : decode cX9_propagates 37 = Except.ok (Instr.dup2, 1) := by decide +kernel
theorem dX9_propagates_38 : decode cX9_propagates 38 = Except.ok (Instr.laload, 1) := by decide +kernel
theorem dX9_propagates_39 : decode cX9_propagates 39 = Except.ok (Instr.lload_n 2, 1) := by decide +kernel
theorem dX9_propagates_40 : decode cX9_propagates 40 = Except.ok (Instr.ladd, 1) := by decide +kernel
theorem dX9_propagates_41 : decode cX9_propagates 41 = Except.ok (Instr.lastore, 1) := by decide +kernel
theorem dX9_propagates_42 : decode cX9_propagates 42 = Except.ok (Instr.aload_n 0, 1) := by decide +kernel
theorem dX9_propagates_43 : decode cX9_propagates 43 = Except.ok (Instr.getfield 65, 3) := by decide +kernel
theorem dX9_propagates_46 : decode cX9_propagates 46 = Except.ok (Instr.iload_n 1, 1) := by decide +kernel
theorem dX9_propagates_47 : decode cX9_propagates 47 = Except.ok (Instr.lload_n 2, 1) := by decide +kernel
theorem dX9_propagates_48 : decode cX9_propagates 48 = Except.ok (Instr.aload_n 0, 1) := by decide +kernel
theorem dX9_propagates_49 : decode cX9_propagates 49 = Except.ok (Instr.getfield 71, 3) := by decide +kernel
theorem dX9_propagates_52 : decode cX9_propagates 52 = Except.ok (Instr.iload_n 1, 1) := by decide +kernel
theorem dX9_propagates_53 : decode cX9_propagates 53 = Except.ok (Instr.laload, 1) := by decide +kernel
theorem dX9_propagates_54 : decode cX9_propagates 54 = Except.ok (Instr.lsub, 1) := by decide +kernel
theorem dX9_propagates_55 : decode cX9_propagates 55 = Except.ok (Instr.lastore, 1) := by decide +kernel
theorem dX9_propagates_56 : decode cX9_propagates 56 = Except.ok (Instr.iinc 1 1, 3) := by decide +kernel
theorem dX9_propagates_59 : decode cX9_propagates 59 = Except.ok (Instr.goto (-57), 3) := by decide +kernel
theorem dX9_propagates_62 : decode cX9_propagates 62 = Except.ok (Instr.aload_n 0, 1) := by decide +kernel
theorem dX9_propagates_63 : decode cX9_propagates 63 = Except.ok (Instr.aload_n 0, 1) := by decide +kernel
theorem dX9_propagates_64 : decode cX9_propagates 64 = Except.ok (Instr.getfield 13, 3) := by decide +kernel
theorem dX9_propagates_67 : decode cX9_propagates 67 = Except.ok (Instr.invokevirtual 223, 3) := by decide +kernel
theorem dX9_propagates_70 : decode cX9_propagates 70 = Except.ok (Instr.iconst 0, 1) := by decide +kernel
theorem dX9_propagates_71 : decode cX9_propagates 71 = Except.ok (Instr.istore_n 1, 1) := by decide +kernel
theorem dX9_propagates_72 : decode cX9_propagates 72 = Except.ok (Instr.iload_n 1, 1) := by decide +kernel
theorem dX9_propagates_73 : decode cX9_propagates 73 = Except.ok (Instr.iconst 3, 1) := by decide +kernel
theorem dX9_propagates_74 : decode cX9_propagates 74 = Except.ok (Instr.if_icmp .ge 28, 3) := by decide +kernel
theorem dX9_propagates_77 : decode cX9_propagates 77 = Except.ok (Instr.aload_n 0, 1) := by decide +kernel
theorem dX9_propagates_78 : decode cX9_propagates 78 = Except.ok (Instr.getfield 68, 3) := by decide +kernel
theorem dX9_propagates_81 : decode cX9_propagates 81 = Except.ok (Instr.iload_n 1, 1) := by decide +kernel
theorem dX9_propagates_82 : decode cX9_propagates 82 = Except.ok (Instr.aload_n 0, 1) := by decide +kernel
theorem dX9_propagates_83 : decode cX9_propagates 83 = Except.ok (Instr.getfield 65, 3) := by decide +kernel
theorem dX9_propagates_86 : decode cX9_propagates 86 = Except.ok (Instr.iload_n 1, 1) := by decide +kernel
theorem dX9_propagates_87 : decode cX9_propagates 87 = Except.ok (Instr.laload, 1) := by decide +kernel
theorem dX9_propagates_88 : decode cX9_propagates 88 = Except.ok (Instr.aload_n 0, 1) := by decide +kernel
theorem dX9_propagates_89 : decode cX9_propagates 89 = Except.ok (Instr.getfield 25, 3) := by decide +kernel
theorem dX9_propagates_92 : decode cX9_propagates 92 = Except.ok (Instr.iload_n 1, 1) := by decide +kernel
theorem dX9_propagates_93 : decode cX9_propagates 93 = Except.ok (Instr.laload, 1) := by decide +kernel
theorem dX9_propagates_94 : decode cX9_propagates 94 = Except.ok (Instr.lsub, 1) := by decide +kernel
theorem dX9_propagates_95 : decode cX9_propagates 95 = Except.ok (Instr.lastore, 1) := by decide +kernel
theorem dX9_propagates_96 : decode cX9_propagates 96 = Except.ok (Instr.iinc 1 1, 3) := by decide +kernel
theorem dX9_propagates_99 : decode cX9_propagates 99 = Except.ok (Instr.goto (-27), 3) := by decide +kernel
theorem dX9_propagates_102 : decode cX9_propagates 102 = Except.ok (Instr.iconst 0, 1) := by decide +kernel
theorem dX9_propagates_103 : decode cX9_propagates 103 = Except.ok (Instr.istore_n 1, 1) := by decide +kernel
theorem dX9_propagates_104 : decode cX9_propagates 104 = Except.ok (Instr.iload_n 1, 1) := by decide +kernel
theorem dX9_propagates_105 : decode cX9_propagates 105 = Except.ok (Instr.iconst 3, 1) := by decide +kernel
theorem dX9_propagates_106 : decode cX9_propagates 106 = Except.ok (Instr.if_icmp .ge 16, 3) := by decide +kernel
theorem dX9_propagates_109 : decode cX9_propagates 109 = Except.ok (Instr.aload_n 0, 1) := by decide +kernel
theorem dX9_propagates_110 : decode cX9_propagates 110 = Except.ok (Instr.getfield 28, 3) := by decide +kernel
theorem dX9_propagates_113 : decode cX9_propagates 113 = Except.ok (Instr.iload_n 1, 1) := by decide +kernel
theorem dX9_propagates_114 : decode cX9_propagates 114 = Except.ok (Instr.lconst 0, 1) := by decide +kernel
theorem dX9_propagates_115 : decode cX9_propagates 115 = Except.ok (Instr.lastore, 1) := by decide +kernel
theorem dX9_propagates_116 : decode cX9_propagates 116 = Except.ok (Instr.iinc 1 1, 3) := by decide +kernel
theorem dX9_propagates_119 : decode cX9_propagates 119 = Except.ok (Instr.goto (-15), 3) := by decide +kernel
theorem dX9_propagates_122 : decode cX9_propagates 122 = Except.ok (Instr.aload_n 0, 1) := by decide +kernel
theorem dX9_propagates_123 : decode cX9_propagates 123 = Except.ok (Instr.getfield 159, 3) := by decide +kernel
theorem dX9_propagates_126 : decode cX9_propagates 126 = Except.ok (Instr.iconst 2, 1) := by decide +kernel
theorem dX9_propagates_127 : decode cX9_propagates 127 = Except.ok (Instr.if_icmp .ne 15, 3) := by decide +kernel
theorem dX9_propagates_130 : decode cX9_propagates 130 = Except.ok (Instr.aload_n 0, 1) := by decide +kernel
theorem dX9_propagates_131 : decode cX9_propagates 131 = Except.ok (Instr.aload_n 0, 1) := by decide +kernel
theorem dX9_propagates_132 : decode cX9_propagates 132 = Except.ok (Instr.getfield 80, 3) := by decide +kernel
theorem dX9_propagates_135 : decode cX9_propagates 135 = Except.ok (Instr.aload_n 0, 1) := by decide +kernel
theorem dX9_propagates_136 : decode cX9_propagates 136 = Except.ok (Instr.getfield 68, 3) := by decide +kernel
theorem dX9_propagates_139 : decode cX9_propagates 139 = Except.ok (Instr.invokevirtual 243, 3) := by decide +kernel
theorem dX9_propagates_142 : decode cX9_propagates 142 = Except.ok (Instr.aload_n 0, 1) := by decide +kernel
theorem dX9_propagates_143 : decode cX9_propagates 143 = Except.ok (Instr.aload_n 0, 1) := by decide +kernel
theorem dX9_propagates_144 : decode cX9_propagates 144 = Except.ok (Instr.getfield 13, 3) := by decide +kernel
theorem dX9_propagates_147 : decode cX9_propagates 147 = Except.ok (Instr.aload_n 0, 1) := by decide +kernel
theorem dX9_propagates_148 : decode cX9_propagates 148 = Except.ok (Instr.getfield 68, 3) := by decide +kernel
theorem dX9_propagates_151 : decode cX9_propagates 151 = Except.ok (Instr.iconst 0, 1) := by decide +kernel
theorem dX9_propagates_152 : decode cX9_propagates 152 = Except.ok (Instr.laload, 1) := by decide +kernel
theorem dX9_propagates_153 : decode cX9_propagates 153 = Except.ok (Instr.aload_n 0, 1) := by decide +kernel
theorem dX9_propagates_154 : decode cX9_propagates 154 = Except.ok (Instr.getfield 28, 3) := by decide +kernel
theorem dX9_propagates_157 : decode cX9_propagates 157 = Except.ok (Instr.iconst 0, 1) := by decide +kernel
theorem dX9_propagates_158 : decode cX9_propagates 158 = Except.ok (Instr.laload, 1) := by decide +kernel
theorem dX9_propagates_159 : decode cX9_propagates 159 = Except.ok (Instr.bipush 28, 2) := by decide +kernel
theorem dX9_propagates_161 : decode cX9_propagates 161 = Except.ok (Instr.lshr, 1) := by decide +kernel
theorem dX9_propagates_162 : decode cX9_propagates 162 = Except.ok (Instr.ldc2_w 246, 3) := by decide +kernel
theorem dX9_propagates_165 : decode cX9_propagates 165 = Except.ok (Instr.invokestatic 134, 3) := by decide +kernel
theorem dX9_propagates_168 : decode cX9_propagates 168 = Except.ok (Instr.ladd, 1) := by decide +kernel
theorem dX9_propagates_169 : decode cX9_propagates 169 = Except.ok (Instr.aload_n 0, 1) := by decide +kernel
theorem dX9_propagates_170 : decode cX9_propagates 170 = Except.ok (Instr.getfield 68, 3) := by decide +kernel
theorem dX9_propagates_173 : decode cX9_propagates 173 = Except.ok (Instr.iconst 1, 1) := by decide +kernel
theorem dX9_propagates_174 : decode cX9_propagates 174 = Except.ok (Instr.laload, 1) := by decide +kernel
theorem dX9_propagates_175 : decode cX9_propagates 175 = Except.ok (Instr.aload_n 0, 1) := by decide +kernel
theorem dX9_propagates_176 : decode cX9_propagates 176 = Except.ok (Instr.getfield 28, 3) := by decide +kernel
theorem dX9_propagates_179 : decode cX9_propagates 179 = Except.ok (Instr.iconst 1, 1) := by decide +kernel
theorem dX9_propagates_180 : decode cX9_propagates 180 = Except.ok (Instr.laload, 1) := by decide +kernel
theorem dX9_propagates_181 : decode cX9_propagates 181 = Except.ok (Instr.bipush 28, 2) := by decide +kernel
theorem dX9_propagates_183 : decode cX9_propagates 183 = Except.ok (Instr.lshr, 1) := by decide +kernel
theorem dX9_propagates_184 : decode cX9_propagates 184 = Except.ok (Instr.ldc2_w 246, 3) := by decide +kernel
theorem dX9_propagates_187 : decode cX9_propagates 187 = Except.ok (Instr.invokestatic 134, 3) := by decide +kernel
theorem dX9_propagates_190 : decode cX9_propagates 190 = Except.ok (Instr.ladd, 1) := by decide +kernel
theorem dX9_propagates_191 : decode cX9_propagates 191 = Except.ok (Instr.aload_n 0, 1) := by decide +kernel
theorem dX9_propagates_192 : decode cX9_propagates 192 = Except.ok (Instr.getfield 68, 3) := by decide +kernel
theorem dX9_propagates_195 : decode cX9_propagates 195 = Except.ok (Instr.iconst 2, 1) := by decide +kernel
theorem dX9_propagates_196 : decode cX9_propagates 196 = Except.ok (Instr.laload, 1) := by decide +kernel
theorem dX9_propagates_197 : decode cX9_propagates 197 = Except.ok (Instr.aload_n 0, 1) := by decide +kernel
theorem dX9_propagates_198 : decode cX9_propagates 198 = Except.ok (Instr.getfield 28, 3) := by decide +kernel
theorem dX9_propagates_201 : decode cX9_propagates 201 = Except.ok (Instr.iconst 2, 1) := by decide +kernel
theorem dX9_propagates_202 : decode cX9_propagates 202 = Except.ok (Instr.laload, 1) := by decide +kernel
theorem dX9_propagates_203 : decode cX9_propagates 203 = Except.ok (Instr.bipush 28, 2) := by decide +kernel
theorem dX9_propagates_205 : decode cX9_propagates 205 = Except.ok (Instr.lshr, 1) := by decide +kernel
theorem dX9_propagates_206 : decode cX9_propagates 206 = Except.ok (Instr.ldc2_w 246, 3) := by decide +kernel
theorem dX9_propagates_209 : decode cX9_propagates 209 = Except.ok (Instr.invokestatic 134, 3) := by decide +kernel
theorem dX9_propagates_212 : decode cX9_propagates 212 = Except.ok (Instr.ladd, 1) := by decide +kernel
theorem dX9_propagates_213 : decode cX9_propagates 213 = Except.ok (Instr.aload_n 0, 1) := by decide +kernel
theorem dX9_propagates_214 : decode cX9_propagates 214 = Except.ok (Instr.getfield 159, 3) := by decide +kernel
theorem dX9_propagates_217 : decode cX9_propagates 217 = Except.ok (Instr.ifCond .ne 7, 3) := by decide +kernel
theorem dX9_propagates_220 : decode cX9_propagates 220 = Except.ok (Instr.iconst 1, 1) := by decide +kernel
theorem dX9_propagates_221 : decode cX9_propagates 221 = Except.ok (Instr.goto 4, 3) := by decide +kernel
theorem dX9_propagates_224 : decode cX9_propagates 224 = Except.ok (Instr.iconst 0, 1) := by decide +kernel
theorem dX9_propagates_225 : decode cX9_propagates 225 = Except.ok (Instr.invokevirtual 216, 3) := by decide +kernel
theorem dX9_propagates_228 : decode cX9_propagates 228 = Except.ok (Instr.iconst 0, 1) := by decide +kernel
theorem dX9_propagates_229 : decode cX9_propagates 229 = Except.ok (Instr.istore_n 1, 1) := by decide +kernel
theorem dX9_propagates_230 : decode cX9_propagates 230 = Except.ok (Instr.iload_n 1, 1) := by decide +kernel
theorem dX9_propagates_231 : decode cX9_propagates 231 = Except.ok (Instr.iconst 3, 1) := by decide +kernel
theorem dX9_propagates_232 : decode cX9_propagates 232 = Except.ok (Instr.if_icmp .ge 21, 3) := by decide +kernel
theorem dX9_propagates_235 : decode cX9_propagates 235 = Except.ok (Instr.aload_n 0, 1) := by decide +kernel
theorem dX9_propagates_236 : decode cX9_propagates 236 = Except.ok (Instr.getfield 80, 3) := by decide +kernel
theorem dX9_propagates_239 : decode cX9_propagates 239 = Except.ok (Instr.iload_n 1, 1) := by decide +kernel
theorem dX9_propagates_240 : decode cX9_propagates 240 = Except.ok (Instr.aload_n 0, 1) := by decide +kernel
theorem dX9_propagates_241 : decode cX9_propagates 241 = Except.ok (Instr.getfield 68, 3) := by decide +kernel
theorem dX9_propagates_244 : decode cX9_propagates 244 = Except.ok (Instr.iload_n 1, 1) := by decide +kernel
theorem dX9_propagates_245 : decode cX9_propagates 245 = Except.ok (Instr.laload, 1) := by decide +kernel
theorem dX9_propagates_246 : decode cX9_propagates 246 = Except.ok (Instr.lastore, 1) := by decide +kernel
theorem dX9_propagates_247 : decode cX9_propagates 247 = Except.ok (Instr.iinc 1 1, 3) := by decide +kernel
theorem dX9_propagates_250 : decode cX9_propagates 250 = Except.ok (Instr.goto (-20), 3) := by decide +kernel
theorem dX9_propagates_253 : decode cX9_propagates 253 = Except.ok (Instr.return_, 1) := by decide +kernel
theorem dX9_levels_0 : decode cX9_levels 0 = Except.ok (Instr.aload_n 0, 1) := by decide +kernel
theorem dX9_levels_1 : decode cX9_levels 1 = Except.ok (Instr.aload_n 0, 1) := by decide +kernel
theorem dX9_levels_2 : decode cX9_levels 2 = Except.ok (Instr.getfield 13, 3) := by decide +kernel
theorem dX9_levels_5 : decode cX9_levels 5 = Except.ok (Instr.invokevirtual 232, 3) := by decide +kernel
theorem dX9_levels_8 : decode cX9_levels 8 = Except.ok (Instr.aload_n 0, 1) := by decide +kernel
theorem dX9_levels_9 : decode cX9_levels 9 = Except.ok (Instr.aload_n 0, 1) := by decide +kernel
theorem dX9_levels_10 : decode cX9_levels 10 = Except.ok (Instr.getfield 59, 3) := by decide +kernel
theorem dX9_levels_13 : decode cX9_levels 13 = Except.ok (Instr.aload_n 0, 1) := by decide +kernel
theorem dX9_levels_14 : decode cX9_levels 14 = Except.ok (Instr.getfield 25, 3) := by decide +kernel
theorem dX9_levels_17 : decode cX9_levels 17 = Except.ok (Instr.invokevirtual 243, 3) := by decide +kernel
theorem dX9_levels_20 : decode cX9_levels 20 = Except.ok (Instr.aload_n 0, 1) := by decide +kernel
theorem dX9_levels_21 : decode cX9_levels 21 = Except.ok (Instr.aload_n 0, 1) := by decide +kernel
theorem dX9_levels_22 : decode cX9_levels 22 = Except.ok (Instr.getfield 13, 3) := by decide +kernel
theorem dX9_levels_25 : decode cX9_levels 25 = Except.ok (Instr.aload_n 0, 1) := by decide +kernel
theorem dX9_levels_26 : decode cX9_levels 26 = Except.ok (Instr.getfield 28, 3) := by decide +kernel
theorem dX9_levels_29 : decode cX9_levels 29 = Except.ok (Instr.iconst 0, 1) := by decide +kernel
theorem dX9_levels_30 : decode cX9_levels 30 = Except.ok (Instr.laload, 1) := by decide +kernel
theorem dX9_levels_31 : decode cX9_levels 31 = Except.ok (Instr.bipush 28, 2) := by decide +kernel
theorem dX9_levels_33 : decode cX9_levels 33 = Except.ok (Instr.aload_n 0, 1) := by decide +kernel
theorem dX9_levels_34 : decode cX9_levels 34 = Except.ok (Instr.getfield 162, 3) := by decide +kernel
theorem dX9_levels_37 : decode cX9_levels 37 = Except.ok (Instr.iadd, 1) := by decide +kernel
theorem dX9_levels_38 : decode cX9_levels 38 = Except.ok (Instr.lshr, 1) := by decide +kernel
theorem dX9_levels_39 : decode cX9_levels 39 = Except.ok (Instr.aload_n 0, 1) := by decide +kernel
theorem dX9_levels_40 : decode cX9_levels 40 = Except.ok (Instr.getfield 28, 3) := by decide +kernel
theorem dX9_levels_43 : decode cX9_levels 43 = Except.ok (Instr.iconst 1, 1) := by decide +kernel
theorem dX9_levels_44 : decode cX9_levels 44 = Except.ok (Instr.laload, 1) := by decide +kernel
theorem dX9_levels_45 : decode cX9_levels 45 = Except.ok (Instr.bipush 28, 2) := by decide +kernel
theorem dX9_levels_47 : decode cX9_levels 47 = Except.ok (Instr.aload_n 0, 1) := by decide +kernel
theorem dX9_levels_48 : decode cX9_levels 48 = Except.ok (Instr.getfield 162, 3) := by decide +kernel
theorem dX9_levels_51 : decode cX9_levels 51 = Except.ok (Instr.iadd, 1) := by decide +kernel
theorem dX9_levels_52 : decode cX9_levels 52 = Except.ok (Instr.lshr, 1) := by decide +kernel
theorem dX9_levels_53 : decode cX9_levels 53 = Except.ok (Instr.aload_n 0, 1) := by decide +kernel
theorem dX9_levels_54 : decode cX9_levels 54 = Except.ok (Instr.getfield 28, 3) := by decide +kernel
theorem dX9_levels_57 : decode cX9_levels 57 = Except.ok (Instr.iconst 2, 1) := by decide +kernel
theorem dX9_levels_58 : decode cX9_levels 58 = Except.ok (Instr.laload, 1) := by decide +kernel
theorem dX9_levels_59 : decode cX9_levels 59 = Except.ok (Instr.bipush 28, 2) := by decide +kernel
theorem dX9_levels_61 : decode cX9_levels 61 = Except.ok (Instr.aload_n 0, 1) := by decide +kernel
theorem dX9_levels_62 : decode cX9_levels 62 = Except.ok (Instr.getfield 162, 3) := by decide +kernel
theorem dX9_levels_65 : decode cX9_levels 65 = Except.ok (Instr.iadd, 1) := by decide +kernel
theorem dX9_levels_66 : decode cX9_levels 66 = Except.ok (Instr.lshr, 1) := by decide +kernel
theorem dX9_levels_67 : decode cX9_levels 67 = Except.ok (Instr.iconst 0, 1) := by decide +kernel
theorem dX9_levels_68 : decode cX9_levels 68 = Except.ok (Instr.invokevirtual 216, 3) := by decide +kernel
theorem dX9_levels_71 : decode cX9_levels 71 = Except.ok (Instr.return_, 1) := by decide +kernel
theorem dX9_heads_0 : decode cX9_heads 0 = Except.ok (Instr.aload_n 0, 1) := by decide +kernel
theorem dX9_heads_1 : decode cX9_heads 1 = Except.ok (Instr.getfield 119, 3) := by decide +kernel
theorem dX9_heads_4 : decode cX9_heads 4 = Except.ok (Instr.lconst 0, 1) := by decide +kernel
theorem dX9_heads_5 : decode cX9_heads 5 = Except.ok (Instr.lcmp, 1) := by decide +kernel
theorem dX9_heads_6 : decode cX9_heads 6 = Except.ok (Instr.ifCond .ne 12, 3) := by decide +kernel
theorem dX9_heads_9 : decode cX9_heads 9 = Except.ok (Instr.aload_n 0, 1) := by decide +kernel
theorem dX9_heads_10 : decode cX9_heads 10 = Except.ok (Instr.getfield 123, 3) := by decide +kernel
theorem dX9_heads_13 : decode cX9_heads 13 = Except.ok (Instr.lconst 0, 1) := by decide +kernel
theorem dX9_heads_14 : decode cX9_heads 14 = Except.ok (Instr.lcmp, 1) := by decide +kernel
theorem dX9_heads_15 : decode cX9_heads 15 = Except.ok (Instr.ifCond .eq 7, 3) := by decide +kernel
theorem dX9_heads_18 : decode cX9_heads 18 = Except.ok (Instr.iconst 1, 1) := by decide +kernel
theorem dX9_heads_19 : decode cX9_heads 19 = Except.ok (Instr.goto 4, 3) := by decide +kernel
theorem dX9_heads_22 : decode cX9_heads 22 = Except.ok (Instr.iconst 0, 1) := by decide +kernel
theorem dX9_heads_23 : decode cX9_heads 23 = Except.ok (Instr.istore_n 1, 1) := by decide +kernel
theorem dX9_heads_24 : decode cX9_heads 24 = Except.ok (Instr.iconst 0, 1) := by decide +kernel
theorem dX9_heads_25 : decode cX9_heads 25 = Except.ok (Instr.istore_n 2, 1) := by decide +kernel
theorem dX9_heads_26 : decode cX9_heads 26 = Except.ok (Instr.iload_n 2, 1) := by decide +kernel
theorem dX9_heads_27 : decode cX9_heads 27 = Except.ok (Instr.iconst 3, 1) := by decide +kernel
theorem dX9_heads_28 : decode cX9_heads 28 = Except.ok (Instr.if_icmp .ge 37, 3) := by decide +kernel
theorem dX9_heads_31 : decode cX9_heads 31 = Except.ok (Instr.iload_n 1, 1) := by decide +kernel
theorem dX9_heads_32 : decode cX9_heads 32 = Except.ok (Instr.ifCond .eq 25, 3) := by decide +kernel
theorem dX9_heads_35 : decode cX9_heads 35 = Except.ok (Instr.aload_n 0, 1) := by decide +kernel
theorem dX9_heads_36 : decode cX9_heads 36 = Except.ok (Instr.getfield 65, 3) := by decide +kernel
theorem dX9_heads_39 : decode cX9_heads 39 = Except.ok (Instr.iload_n 2, 1) := by decide +kernel
theorem dX9_heads_40 : decode cX9_heads 40 = Except.ok (Instr.laload, 1) := by decide +kernel
theorem dX9_heads_41 : decode cX9_heads 41 = Except.ok (Instr.ldc2_w 248, 3) := by decide +kernel
theorem dX9_heads_44 : decode cX9_heads 44 = Except.ok (Instr.ldc2_w 250, 3) := by decide +kernel
theorem dX9_heads_47 : decode cX9_heads 47 = Except.ok (Instr.invokestatic 107, 3) := by decide +kernel
theorem dX9_heads_50 : decode cX9_heads 50 = Except.ok (Instr.ifCond .eq 7, 3) := by decide +kernel
theorem dX9_heads_53 : decode cX9_heads 53 = Except.ok (Instr.iconst 1, 1) := by decide +kernel
theorem dX9_heads_54 : decode cX9_heads 54 = Except.ok (Instr.goto 4, 3) := by decide +kernel
theorem dX9_heads_57 : decode cX9_heads 57 = Except.ok (Instr.iconst 0, 1) := by decide +kernel
theorem dX9_heads_58 : decode cX9_heads 58 = Except.ok (Instr.istore_n 1, 1) := by decide +kernel
theorem dX9_heads_59 : decode cX9_heads 59 = Except.ok (Instr.iinc 2 1, 3) := by decide +kernel
theorem dX9_heads_62 : decode cX9_heads 62 = Except.ok (Instr.goto (-36), 3) := by decide +kernel
theorem dX9_heads_65 : decode cX9_heads 65 = Except.ok (Instr.iload_n 1, 1) := by decide +kernel
theorem dX9_heads_66 : decode cX9_heads 66 = Except.ok (Instr.ifCond .ne 4, 3) := by decide +kernel
theorem dX9_heads_69 : decode cX9_heads 69 = Except.ok (Instr.return_, 1) := by decide +kernel
theorem dX9_heads_70 : decode cX9_heads 70 = Except.ok (Instr.iconst 0, 1) := by decide +kernel
theorem dX9_heads_71 : decode cX9_heads 71 = Except.ok (Instr.istore_n 2, 1) := by decide +kernel
theorem dX9_heads_72 : decode cX9_heads 72 = Except.ok (Instr.iload_n 2, 1) := by decide +kernel
theorem dX9_heads_73 : decode cX9_heads 73 = Except.ok (Instr.iconst 3, 1) := by decide +kernel
theorem dX9_heads_74 : decode cX9_heads 74 = Except.ok (Instr.if_icmp .ge 33, 3) := by decide +kernel
theorem dX9_heads_77 : decode cX9_heads 77 = Except.ok (Instr.aload_n 0, 1) := by decide +kernel
theorem dX9_heads_78 : decode cX9_heads 78 = Except.ok (Instr.getfield 77, 3) := by decide +kernel
theorem dX9_heads_81 : decode cX9_heads 81 = Except.ok (Instr.iload_n 2, 1) := by decide +kernel
theorem dX9_heads_82 : decode cX9_heads 82 = Except.ok (Instr.dup2, 1) := by decide +kernel
theorem dX9_heads_83 : decode cX9_heads 83 = Except.ok (Instr.laload, 1) := by decide +kernel
theorem dX9_heads_84 : decode cX9_heads 84 = Except.ok (Instr.aload_n 0, 1) := by decide +kernel
theorem dX9_heads_85 : decode cX9_heads 85 = Except.ok (Instr.getfield 65, 3) := by decide +kernel
theorem dX9_heads_88 : decode cX9_heads 88 = Except.ok (Instr.iload_n 2, 1) := by decide +kernel
theorem dX9_heads_89 : decode cX9_heads 89 = Except.ok (Instr.laload, 1) := by decide +kernel
theorem dX9_heads_90 : decode cX9_heads 90 = Except.ok (Instr.aload_n 0, 1) := by decide +kernel
theorem dX9_heads_91 : decode cX9_heads 91 = Except.ok (Instr.getfield 77, 3) := by decide +kernel
theorem dX9_heads_94 : decode cX9_heads 94 = Except.ok (Instr.iload_n 2, 1) := by decide +kernel
theorem dX9_heads_95 : decode cX9_heads 95 = Except.ok (Instr.laload, 1) := by decide +kernel
theorem dX9_heads_96 : decode cX9_heads 96 = Except.ok (Instr.lsub, 1) := by decide +kernel
theorem dX9_heads_97 : decode cX9_heads 97 = Except.ok (Instr.iconst 4, 1) := by decide +kernel
theorem dX9_heads_98 : decode cX9_heads 98 = Except.ok (Instr.lshr, 1) := by decide +kernel
theorem dX9_heads_99 : decode cX9_heads 99 = Except.ok (Instr.ladd, 1) := by decide +kernel
theorem dX9_heads_100 : decode cX9_heads 100 = Except.ok (Instr.lastore, 1) := by decide +kernel
theorem dX9_heads_101 : decode cX9_heads 101 = Except.ok (Instr.iinc 2 1, 3) := by decide +kernel
theorem dX9_heads_104 : decode cX9_heads 104 = Except.ok (Instr.goto (-32), 3) := by decide +kernel
theorem dX9_heads_107 : decode cX9_heads 107 = Except.ok (Instr.aload_n 0, 1) := by decide +kernel
theorem dX9_heads_108 : decode cX9_heads 108 = Except.ok (Instr.aload_n 0, 1) := by decide +kernel
theorem dX9_heads_109 : decode cX9_heads 109 = Except.ok (Instr.getfield 13, 3) := by decide +kernel
theorem dX9_heads_112 : decode cX9_heads 112 = Except.ok (Instr.invokevirtual 223, 3) := by decide +kernel
theorem dX9_heads_115 : decode cX9_heads 115 = Except.ok (Instr.aload_n 0, 1) := by decide +kernel
theorem dX9_heads_116 : decode cX9_heads 116 = Except.ok (Instr.aload_n 0, 1) := by decide +kernel
theorem dX9_heads_117 : decode cX9_heads 117 = Except.ok (Instr.getfield 77, 3) := by decide +kernel
theorem dX9_heads_120 : decode cX9_heads 120 = Except.ok (Instr.aload_n 0, 1) := by decide +kernel
theorem dX9_heads_121 : decode cX9_heads 121 = Except.ok (Instr.getfield 25, 3) := by decide +kernel
theorem dX9_heads_124 : decode cX9_heads 124 = Except.ok (Instr.invokevirtual 243, 3) := by decide +kernel
theorem dX9_heads_127 : decode cX9_heads 127 = Except.ok (Instr.aload_n 0, 1) := by decide +kernel
theorem dX9_heads_128 : decode cX9_heads 128 = Except.ok (Instr.getfield 119, 3) := by decide +kernel
theorem dX9_heads_131 : decode cX9_heads 131 = Except.ok (Instr.aload_n 0, 1) := by decide +kernel
theorem dX9_heads_132 : decode cX9_heads 132 = Except.ok (Instr.getfield 119, 3) := by decide +kernel
theorem dX9_heads_135 : decode cX9_heads 135 = Except.ok (Instr.lmul, 1) := by decide +kernel
theorem dX9_heads_136 : decode cX9_heads 136 = Except.ok (Instr.aload_n 0, 1) := by decide +kernel
theorem dX9_heads_137 : decode cX9_heads 137 = Except.ok (Instr.getfield 123, 3) := by decide +kernel
theorem dX9_heads_140 : decode cX9_heads 140 = Except.ok (Instr.aload_n 0, 1) := by decide +kernel
theorem dX9_heads_141 : decode cX9_heads 141 = Except.ok (Instr.getfield 123, 3) := by decide +kernel
theorem dX9_heads_144 : decode cX9_heads 144 = Except.ok (Instr.lmul, 1) := by decide +kernel
theorem dX9_heads_145 : decode cX9_heads 145 = Except.ok (Instr.ladd, 1) := by decide +kernel
theorem dX9_heads_146 : decode cX9_heads 146 = Except.ok (Instr.lstore_n 2, 1) := by decide +kernel
theorem dX9_heads_147 : decode cX9_heads 147 = Except.ok (Instr.iconst 0, 1) := by decide +kernel
theorem dX9_heads_148 : decode cX9_heads 148 = Except.ok (Instr.istore 4, 2) := by decide +kernel
theorem dX9_heads_150 : decode cX9_heads 150 = Except.ok (Instr.iload 4, 2) := by decide +kernel
theorem dX9_heads_152 : decode cX9_heads 152 = Except.ok (Instr.iconst 3, 1) := by decide +kernel
theorem dX9_heads_153 : decode cX9_heads 153 = Except.ok (Instr.if_icmp .ge 44, 3) := by decide +kernel
theorem dX9_heads_156 : decode cX9_heads 156 = Except.ok (Instr.aload_n 0, 1) := by decide +kernel
theorem dX9_heads_157 : decode cX9_heads 157 = Except.ok (Instr.getfield 28, 3) := by decide +kernel
theorem dX9_heads_160 : decode cX9_heads 160 = Except.ok (Instr.iload 4, 2) := by decide +kernel
theorem dX9_heads_162 : decode cX9_heads 162 = Except.ok (Instr.aload_n 0, 1) := by decide +kernel
theorem dX9_heads_163 : decode cX9_heads 163 = Except.ok (Instr.getfield 28, 3) := by decide +kernel
theorem dX9_heads_166 : decode cX9_heads 166 = Except.ok (Instr.iload 4, 2) := by decide +kernel
theorem dX9_heads_168 : decode cX9_heads 168 = Except.ok (Instr.laload, 1) := by decide +kernel
theorem dX9_heads_169 : decode cX9_heads 169 = Except.ok (Instr.bipush 20, 2) := by decide +kernel
theorem dX9_heads_171 : decode cX9_heads 171 = Except.ok (Instr.lshl, 1) := by decide +kernel
theorem dX9_heads_172 : decode cX9_heads 172 = Except.ok (Instr.lload_n 2, 1) := by decide +kernel
theorem dX9_heads_173 : decode cX9_heads 173 = Except.ok (Instr.invokestatic 134, 3) := by decide +kernel
theorem dX9_heads_176 : decode cX9_heads 176 = Except.ok (Instr.bipush 8, 2) := by decide +kernel
theorem dX9_heads_178 : decode cX9_heads 178 = Except.ok (Instr.lshl, 1) := by decide +kernel
theorem dX9_heads_179 : decode cX9_heads 179 = Except.ok (Instr.aload_n 0, 1) := by decide +kernel
theorem dX9_heads_180 : decode cX9_heads 180 = Except.ok (Instr.getfield 165, 3) := by decide +kernel
theorem dX9_heads_183 : decode cX9_heads 183 = Except.ok (Instr.lshr, 1) := by decide +kernel
theorem dX9_heads_184 : decode cX9_heads 184 = Except.ok (Instr.ldc2_w 252, 3) := by decide +kernel
theorem dX9_heads_187 : decode cX9_heads 187 = Except.ok (Instr.invokestatic 254, 3) := by decide +kernel
theorem dX9_heads_190 : decode cX9_heads 190 = Except.ok (Instr.lastore, 1) := by decide +kernel
theorem dX9_heads_191 : decode cX9_heads 191 = Except.ok (Instr.iinc 4 1, 3) := by decide +kernel
theorem dX9_heads_194 : decode cX9_heads 194 = Except.ok (Instr.goto (-44), 3) := by decide +kernel
theorem dX9_heads_197 : decode cX9_heads 197 = Except.ok (Instr.aload_n 0, 1) := by decide +kernel
theorem dX9_heads_198 : decode cX9_heads 198 = Except.ok (Instr.aload_n 0, 1) := by decide +kernel
theorem dX9_heads_199 : decode cX9_heads 199 = Except.ok (Instr.getfield 13, 3) := by decide +kernel
theorem dX9_heads_202 : decode cX9_heads 202 = Except.ok (Instr.aload_n 0, 1) := by decide +kernel
theorem dX9_heads_203 : decode cX9_heads 203 = Except.ok (Instr.getfield 28, 3) := by decide +kernel
theorem dX9_heads_206 : decode cX9_heads 206 = Except.ok (Instr.iconst 0, 1) := by decide +kernel
theorem dX9_heads_207 : decode cX9_heads 207 = Except.ok (Instr.laload, 1) := by decide +kernel
theorem dX9_heads_208 : decode cX9_heads 208 = Except.ok (Instr.aload_n 0, 1) := by decide +kernel
theorem dX9_heads_209 : decode cX9_heads 209 = Except.ok (Instr.getfield 28, 3) := by decide +kernel
theorem dX9_heads_212 : decode cX9_heads 212 = Except.ok (Instr.iconst 1, 1) := by decide +kernel
theorem dX9_heads_213 : decode cX9_heads 213 = Except.ok (Instr.laload, 1) := by decide +kernel
theorem dX9_heads_214 : decode cX9_heads 214 = Except.ok (Instr.aload_n 0, 1) := by decide +kernel
theorem dX9_heads_215 : decode cX9_heads 215 = Except.ok (Instr.getfield 28, 3) := by decide +kernel
theorem dX9_heads_218 : decode cX9_heads 218 = Except.ok (Instr.iconst 2, 1) := by decide +kernel
theorem dX9_heads_219 : decode cX9_heads 219 = Except.ok (Instr.laload, 1) := by decide +kernel
theorem dX9_heads_220 : decode cX9_heads 220 = Except.ok (Instr.iconst 0, 1) := by decide +kernel
theorem dX9_heads_221 : decode cX9_heads 221 = Except.ok (Instr.invokevirtual 216, 3) := by decide +kernel
theorem dX9_heads_224 : decode cX9_heads 224 = Except.ok (Instr.return_, 1) := by decide +kernel
theorem dX9_limited_0 : decode cX9_limited 0 = Except.ok (Instr.lload_n 0, 1) := by decide +kernel
theorem dX9_limited_1 : decode cX9_limited 1 = Except.ok (Instr.lload_n 2, 1) := by decide +kernel
theorem dX9_limited_2 : decode cX9_limited 2 = Except.ok (Instr.lcmp, 1) := by decide +kernel
theorem dX9_limited_3 : decode cX9_limited 3 = Except.ok (Instr.ifCond .le 7, 3) := by decide +kernel
theorem dX9_limited_6 : decode cX9_limited 6 = Except.ok (Instr.lload_n 2, 1) := by decide +kernel
theorem dX9_limited_7 : decode cX9_limited 7 = Except.ok (Instr.goto 16, 3) := by decide +kernel
theorem dX9_limited_10 : decode cX9_limited 10 = Except.ok (Instr.lload_n 0, 1) := by decide +kernel
theorem dX9_limited_11 : decode cX9_limited 11 = Except.ok (Instr.lload_n 2, 1) := by decide +kernel
theorem dX9_limited_12 : decode cX9_limited 12 = Except.ok (Instr.lneg, 1) := by decide +kernel
theorem dX9_limited_13 : decode cX9_limited 13 = Except.ok (Instr.lcmp, 1) := by decide +kernel
theorem dX9_limited_14 : decode cX9_limited 14 = Except.ok (Instr.ifCond .ge 8, 3) := by decide +kernel
theorem dX9_limited_17 : decode cX9_limited 17 = Except.ok (Instr.lload_n 2, 1) := by decide +kernel
theorem dX9_limited_18 : decode cX9_limited 18 = Except.ok (Instr.lneg, 1) := by decide +kernel
theorem dX9_limited_19 : decode cX9_limited 19 = Except.ok (Instr.goto 4, 3) := by decide +kernel
theorem dX9_limited_22 : decode cX9_limited 22 = Except.ok (Instr.lload_n 0, 1) := by decide +kernel
theorem dX9_limited_23 : decode cX9_limited 23 = Except.ok (Instr.lreturn, 1) := by decide +kernel
theorem dX9_calibrates_0 : decode cX9_calibrates 0 = Except.ok (Instr.aload_n 0, 1) := by decide +kernel
theorem dX9_calibrates_1 : decode cX9_calibrates 1 = Except.ok (Instr.dup, 1) := by decide +kernel
theorem dX9_calibrates_2 : decode cX9_calibrates 2 = Except.ok (Instr.getfield 168, 3) := by decide +kernel
theorem dX9_calibrates_5 : decode cX9_calibrates 5 = Except.ok (Instr.iconst 1, 1) := by decide +kernel
theorem dX9_calibrates_6 : decode cX9_calibrates 6 = Except.ok (Instr.isub, 1) := by decide +kernel
theorem dX9_calibrates_7 : decode cX9_calibrates 7 = Except.ok (Instr.putfield 168, 3) := by decide +kernel
theorem dX9_calibrates_10 : decode cX9_calibrates 10 = Except.ok (Instr.aload_n 0, 1) := by decide +kernel
theorem dX9_calibrates_11 : decode cX9_calibrates 11 = Except.ok (Instr.getfield 168, 3) := by decide +kernel
theorem dX9_calibrates_14 : decode cX9_calibrates 14 = Except.ok (Instr.ifCond .le 4, 3) := by decide +kernel
theorem dX9_calibrates_17 : decode cX9_calibrates 17 = Except.ok (Instr.return_, 1) := by decide +kernel
theorem dX9_calibrates_18 : decode cX9_calibrates 18 = Except.ok (Instr.aload_n 0, 1) := by decide +kernel
theorem dX9_calibrates_19 : decode cX9_calibrates 19 = Except.ok (Instr.aload_n 0, 1) := by decide +kernel
theorem dX9_calibrates_20 : decode cX9_calibrates 20 = Except.ok (Instr.getfield 13, 3) := by decide +kernel
theorem dX9_calibrates_23 : decode cX9_calibrates 23 = Except.ok (Instr.invokevirtual 223, 3) := by decide +kernel
theorem dX9_calibrates_26 : decode cX9_calibrates 26 = Except.ok (Instr.iconst 0, 1) := by decide +kernel
theorem dX9_calibrates_27 : decode cX9_calibrates 27 = Except.ok (Instr.istore_n 1, 1) := by decide +kernel
theorem dX9_calibrates_28 : decode cX9_calibrates 28 = Except.ok (Instr.iload_n 1, 1) := by decide +kernel
theorem dX9_calibrates_29 : decode cX9_calibrates 29 = Except.ok (Instr.iconst 3, 1) := by decide +kernel
theorem dX9_calibrates_30 : decode cX9_calibrates 30 = Except.ok (Instr.if_icmp .ge 36, 3) := by decide +kernel
theorem dX9_calibrates_33 : decode cX9_calibrates 33 = Except.ok (Instr.aload_n 0, 1) := by decide +kernel
theorem dX9_calibrates_34 : decode cX9_calibrates 34 = Except.ok (Instr.getfield 71, 3) := by decide +kernel
theorem dX9_calibrates_37 : decode cX9_calibrates 37 = Except.ok (Instr.iload_n 1, 1) := by decide +kernel
theorem dX9_calibrates_38 : decode cX9_calibrates 38 = Except.ok (Instr.aload_n 0, 1) := by decide +kernel
theorem dX9_calibrates_39 : decode cX9_calibrates 39 = Except.ok (Instr.getfield 74, 3) := by decide +kernel
theorem dX9_calibrates_42 : decode cX9_calibrates 42 = Except.ok (Instr.iload_n 1, 1) := by decide +kernel
theorem dX9_calibrates_43 : decode cX9_calibrates 43 = Except.ok (Instr.laload, 1) := by decide +kernel
theorem dX9_calibrates_44 : decode cX9_calibrates 44 = Except.ok (Instr.aload_n 0, 1) := by decide +kernel
theorem dX9_calibrates_45 : decode cX9_calibrates 45 = Except.ok (Instr.getfield 171, 3) := by decide +kernel
theorem dX9_calibrates_48 : decode cX9_calibrates 48 = Except.ok (Instr.i2l, 1) := by decide +kernel
theorem dX9_calibrates_49 : decode cX9_calibrates 49 = Except.ok (Instr.invokestatic 134, 3) := by decide +kernel
theorem dX9_calibrates_52 : decode cX9_calibrates 52 = Except.ok (Instr.aload_n 0, 1) := by decide +kernel
theorem dX9_calibrates_53 : decode cX9_calibrates 53 = Except.ok (Instr.getfield 25, 3) := by decide +kernel
theorem dX9_calibrates_56 : decode cX9_calibrates 56 = Except.ok (Instr.iload_n 1, 1) := by decide +kernel
theorem dX9_calibrates_57 : decode cX9_calibrates 57 = Except.ok (Instr.laload, 1) := by decide +kernel
theorem dX9_calibrates_58 : decode cX9_calibrates 58 = Except.ok (Instr.lsub, 1) := by decide +kernel
theorem dX9_calibrates_59 : decode cX9_calibrates 59 = Except.ok (Instr.lastore, 1) := by decide +kernel
theorem dX9_calibrates_60 : decode cX9_calibrates 60 = Except.ok (Instr.iinc 1 1, 3) := by decide +kernel
theorem dX9_calibrates_63 : decode cX9_calibrates 63 = Except.ok (Instr.goto (-35), 3) := by decide +kernel
theorem dX9_calibrates_66 : decode cX9_calibrates 66 = Except.ok (Instr.return_, 1) := by decide +kernel
theorem dX9_tick_0 : decode cX9_tick 0 = Except.ok (Instr.iconst 0, 1) := by decide +kernel
theorem dX9_tick_1 : decode cX9_tick 1 = Except.ok (Instr.istore_n 1, 1) := by decide +kernel
theorem dX9_tick_2 : decode cX9_tick 2 = Except.ok (Instr.iload_n 1, 1) := by decide +kernel
theorem dX9_tick_3 : decode cX9_tick 3 = Except.ok (Instr.iconst 3, 1) := by decide +kernel
theorem dX9_tick_4 : decode cX9_tick 4 = Except.ok (Instr.if_icmp .ge 33, 3) := by decide +kernel
theorem dX9_tick_7 : decode cX9_tick 7 = Except.ok (Instr.aload_n 0, 1) := by decide +kernel
theorem dX9_tick_8 : decode cX9_tick 8 = Except.ok (Instr.getfield 62, 3) := by decide +kernel
theorem dX9_tick_11 : decode cX9_tick 11 = Except.ok (Instr.iload_n 1, 1) := by decide +kernel
theorem dX9_tick_12 : decode cX9_tick 12 = Except.ok (Instr.aload_n 0, 1) := by decide +kernel
theorem dX9_tick_13 : decode cX9_tick 13 = Except.ok (Instr.getfield 156, 3) := by decide +kernel
theorem dX9_tick_16 : decode cX9_tick 16 = Except.ok (Instr.ifCond .ne 7, 3) := by decide +kernel
theorem dX9_tick_19 : decode cX9_tick 19 = Except.ok (Instr.lconst 0, 1) := by decide +kernel
theorem dX9_tick_20 : decode cX9_tick 20 = Except.ok (Instr.goto 10, 3) := by decide +kernel
theorem dX9_tick_23 : decode cX9_tick 23 = Except.ok (Instr.aload_n 0, 1) := by decide +kernel
theorem dX9_tick_24 : decode cX9_tick 24 = Except.ok (Instr.getfield 53, 3) := by decide +kernel
theorem dX9_tick_27 : decode cX9_tick 27 = Except.ok (Instr.iload_n 1, 1) := by decide +kernel
theorem dX9_tick_28 : decode cX9_tick 28 = Except.ok (Instr.iaload, 1) := by decide +kernel
theorem dX9_tick_29 : decode cX9_tick 29 = Except.ok (Instr.i2l, 1) := by decide +kernel
theorem dX9_tick_30 : decode cX9_tick 30 = Except.ok (Instr.lastore, 1) := by decide +kernel
theorem dX9_tick_31 : decode cX9_tick 31 = Except.ok (Instr.iinc 1 1, 3) := by decide +kernel
theorem dX9_tick_34 : decode cX9_tick 34 = Except.ok (Instr.goto (-32), 3) := by decide +kernel
theorem dX9_tick_37 : decode cX9_tick 37 = Except.ok (Instr.aload_n 0, 1) := by decide +kernel
theorem dX9_tick_38 : decode cX9_tick 38 = Except.ok (Instr.getfield 156, 3) := by decide +kernel
theorem dX9_tick_41 : decode cX9_tick 41 = Except.ok (Instr.ifCond .le 13, 3) := by decide +kernel
theorem dX9_tick_44 : decode cX9_tick 44 = Except.ok (Instr.aload_n 0, 1) := by decide +kernel
theorem dX9_tick_45 : decode cX9_tick 45 = Except.ok (Instr.getfield 50, 3) := by decide +kernel
theorem dX9_tick_48 : decode cX9_tick 48 = Except.ok (Instr.iconst 0, 1) := by decide +kernel
theorem dX9_tick_49 : decode cX9_tick 49 = Except.ok (Instr.dup2, 1) := by decide +kernel
theorem dX9_tick_50 : decode cX9_tick 50 = Except.ok (Instr.iaload, 1) := by decide +kernel
theorem dX9_tick_51 : decode cX9_tick 51 = Except.ok (Instr.iconst 1, 1) := by decide +kernel
theorem dX9_tick_52 : decode cX9_tick 52 = Except.ok (Instr.isub, 1) := by decide +kernel
theorem dX9_tick_53 : decode cX9_tick 53 = Except.ok (Instr.iastore, 1) := by decide +kernel
theorem dX9_tick_54 : decode cX9_tick 54 = Except.ok (Instr.aload_n 0, 1) := by decide +kernel
theorem dX9_tick_55 : decode cX9_tick 55 = Except.ok (Instr.getfield 156, 3) := by decide +kernel
theorem dX9_tick_58 : decode cX9_tick 58 = Except.ok (Instr.ifCond .le 16, 3) := by decide +kernel
theorem dX9_tick_61 : decode cX9_tick 61 = Except.ok (Instr.aload_n 0, 1) := by decide +kernel
theorem dX9_tick_62 : decode cX9_tick 62 = Except.ok (Instr.getfield 50, 3) := by decide +kernel
theorem dX9_tick_65 : decode cX9_tick 65 = Except.ok (Instr.iconst 0, 1) := by decide +kernel
theorem dX9_tick_66 : decode cX9_tick 66 = Except.ok (Instr.iaload, 1) := by decide +kernel
theorem dX9_tick_67 : decode cX9_tick 67 = Except.ok (Instr.ifCond .ne 7, 3) := by decide +kernel
theorem dX9_tick_70 : decode cX9_tick 70 = Except.ok (Instr.aload_n 0, 1) := by decide +kernel
theorem dX9_tick_71 : decode cX9_tick 71 = Except.ok (Instr.invokevirtual 257, 3) := by decide +kernel
theorem dX9_tick_74 : decode cX9_tick 74 = Except.ok (Instr.aload_n 0, 1) := by decide +kernel
theorem dX9_tick_75 : decode cX9_tick 75 = Except.ok (Instr.invokevirtual 260, 3) := by decide +kernel
theorem dX9_tick_78 : decode cX9_tick 78 = Except.ok (Instr.aload_n 0, 1) := by decide +kernel
theorem dX9_tick_79 : decode cX9_tick 79 = Except.ok (Instr.invokevirtual 263, 3) := by decide +kernel
theorem dX9_tick_82 : decode cX9_tick 82 = Except.ok (Instr.aload_n 0, 1) := by decide +kernel
theorem dX9_tick_83 : decode cX9_tick 83 = Except.ok (Instr.getfield 162, 3) := by decide +kernel
theorem dX9_tick_86 : decode cX9_tick 86 = Except.ok (Instr.ifCond .le 7, 3) := by decide +kernel
theorem dX9_tick_89 : decode cX9_tick 89 = Except.ok (Instr.aload_n 0, 1) := by decide +kernel
theorem dX9_tick_90 : decode cX9_tick 90 = Except.ok (Instr.invokevirtual 266, 3) := by decide +kernel
theorem dX9_tick_93 : decode cX9_tick 93 = Except.ok (Instr.aload_n 0, 1) := by decide +kernel
theorem dX9_tick_94 : decode cX9_tick 94 = Except.ok (Instr.getfield 165, 3) := by decide +kernel
theorem dX9_tick_97 : decode cX9_tick 97 = Except.ok (Instr.ifCond .le 7, 3) := by decide +kernel
theorem dX9_tick_100 : decode cX9_tick 100 = Except.ok (Instr.aload_n 0, 1) := by decide +kernel
theorem dX9_tick_101 : decode cX9_tick 101 = Except.ok (Instr.invokevirtual 269, 3) := by decide +kernel
theorem dX9_tick_104 : decode cX9_tick 104 = Except.ok (Instr.aload_n 0, 1) := by decide +kernel
theorem dX9_tick_105 : decode cX9_tick 105 = Except.ok (Instr.getfield 168, 3) := by decide +kernel
theorem dX9_tick_108 : decode cX9_tick 108 = Except.ok (Instr.ifCond .le 7, 3) := by decide +kernel
theorem dX9_tick_111 : decode cX9_tick 111 = Except.ok (Instr.aload_n 0, 1) := by decide +kernel
theorem dX9_tick_112 : decode cX9_tick 112 = Except.ok (Instr.invokevirtual 272, 3) := by decide +kernel
theorem dX9_tick_115 : decode cX9_tick 115 = Except.ok (Instr.aload_n 0, 1) := by decide +kernel
theorem dX9_tick_116 : decode cX9_tick 116 = Except.ok (Instr.dup, 1) := by decide +kernel
theorem dX9_tick_117 : decode cX9_tick 117 = Except.ok (Instr.getfield 153, 3) := by decide +kernel
theorem dX9_tick_120 : decode cX9_tick 120 = Except.ok (Instr.iconst 1, 1) := by decide +kernel
theorem dX9_tick_121 : decode cX9_tick 121 = Except.ok (Instr.iadd, 1) := by decide +kernel
theorem dX9_tick_122 : decode cX9_tick 122 = Except.ok (Instr.putfield 153, 3) := by decide +kernel
theorem dX9_tick_125 : decode cX9_tick 125 = Except.ok (Instr.aload_n 0, 1) := by decide +kernel
theorem dX9_tick_126 : decode cX9_tick 126 = Except.ok (Instr.getfield 90, 3) := by decide +kernel
theorem dX9_tick_129 : decode cX9_tick 129 = Except.ok (Instr.aload_n 0, 1) := by decide +kernel
theorem dX9_tick_130 : decode cX9_tick 130 = Except.ok (Instr.invokevirtual 235, 3) := by decide +kernel
theorem dX9_tick_133 : decode cX9_tick 133 = Except.ok (Instr.iconst 1, 1) := by decide +kernel
theorem dX9_tick_134 : decode cX9_tick 134 = Except.ok (Instr.bastore, 1) := by decide +kernel
theorem dX9_tick_135 : decode cX9_tick 135 = Except.ok (Instr.aload_n 0, 1) := by decide +kernel
theorem dX9_tick_136 : decode cX9_tick 136 = Except.ok (Instr.aload_n 0, 1) := by decide +kernel
theorem dX9_tick_137 : decode cX9_tick 137 = Except.ok (Instr.getfield 7, 3) := by decide +kernel
theorem dX9_tick_140 : decode cX9_tick 140 = Except.ok (Instr.aload_n 0, 1) := by decide +kernel
theorem dX9_tick_141 : decode cX9_tick 141 = Except.ok (Instr.getfield 13, 3) := by decide +kernel
theorem dX9_tick_144 : decode cX9_tick 144 = Except.ok (Instr.invokevirtual 275, 3) := by decide +kernel
theorem dX9_tick_147 : decode cX9_tick 147 = Except.ok (Instr.lstore_n 1, 1) := by decide +kernel
theorem dX9_tick_148 : decode cX9_tick 148 = Except.ok (Instr.aload_n 0, 1) := by decide +kernel
theorem dX9_tick_149 : decode cX9_tick 149 = Except.ok (Instr.lload_n 1, 1) := by decide +kernel
theorem dX9_tick_150 : decode cX9_tick 150 = Except.ok (Instr.aload_n 0, 1) := by decide +kernel
theorem dX9_tick_151 : decode cX9_tick 151 = Except.ok (Instr.getfield 174, 3) := by decide +kernel
theorem dX9_tick_154 : decode cX9_tick 154 = Except.ok (Instr.lcmp, 1) := by decide +kernel
theorem dX9_tick_155 : decode cX9_tick 155 = Except.ok (Instr.ifCond .le 7, 3) := by decide +kernel
theorem dX9_tick_158 : decode cX9_tick 158 = Except.ok (Instr.lload_n 1, 1) := by decide +kernel
theorem dX9_tick_159 : decode cX9_tick 159 = Except.ok (Instr.goto 7, 3) := by decide +kernel
theorem dX9_tick_162 : decode cX9_tick 162 = Except.ok (Instr.aload_n 0, 1) := by decide +kernel
theorem dX9_tick_163 : decode cX9_tick 163 = Except.ok (Instr.getfield 174, 3) := by decide +kernel
theorem dX9_tick_166 : decode cX9_tick 166 = Except.ok (Instr.putfield 174, 3) := by decide +kernel
theorem dX9_tick_169 : decode cX9_tick 169 = Except.ok (Instr.return_, 1) := by decide +kernel
theorem dX9_run_0 : decode cX9_run 0 = Except.ok (Instr.iload_n 1, 1) := by decide +kernel
theorem dX9_run_1 : decode cX9_run 1 = Except.ok (Instr.i2l, 1) := by decide +kernel
theorem dX9_run_2 : decode cX9_run 2 = Except.ok (Instr.lconst 1, 1) := by decide +kernel
theorem dX9_run_3 : decode cX9_run 3 = Except.ok (Instr.ldc2_w 279, 3) := by decide +kernel
theorem dX9_run_6 : decode cX9_run 6 = Except.ok (Instr.invokestatic 107, 3) := by decide +kernel
theorem dX9_run_9 : decode cX9_run 9 = Except.ok (Instr.ifCond .eq 15, 3) := by decide +kernel
theorem dX9_run_12 : decode cX9_run 12 = Except.ok (Instr.aload_n 0, 1) := by decide +kernel
theorem dX9_run_13 : decode cX9_run 13 = Except.ok (Instr.getfield 153, 3) := by decide +kernel
theorem dX9_run_16 : decode cX9_run 16 = Except.ok (Instr.iload_n 1, 1) := by decide +kernel
theorem dX9_run_17 : decode cX9_run 17 = Except.ok (Instr.iadd, 1) := by decide +kernel
theorem dX9_run_18 : decode cX9_run 18 = Except.ok (Instr.ldc_w 281, 3) := by decide +kernel
theorem dX9_run_21 : decode cX9_run 21 = Except.ok (Instr.if_icmp .le 6, 3) := by decide +kernel
theorem dX9_run_24 : decode cX9_run 24 = Except.ok (Instr.bipush (-2), 2) := by decide +kernel
theorem dX9_run_26 : decode cX9_run 26 = Except.ok (Instr.ireturn, 1) := by decide +kernel
theorem dX9_run_27 : decode cX9_run 27 = Except.ok (Instr.iconst 0, 1) := by decide +kernel
theorem dX9_run_28 : decode cX9_run 28 = Except.ok (Instr.istore_n 2, 1) := by decide +kernel
theorem dX9_run_29 : decode cX9_run 29 = Except.ok (Instr.iload_n 2, 1) := by decide +kernel
theorem dX9_run_30 : decode cX9_run 30 = Except.ok (Instr.iload_n 1, 1) := by decide +kernel
theorem dX9_run_31 : decode cX9_run 31 = Except.ok (Instr.if_icmp .ge 13, 3) := by decide +kernel
theorem dX9_run_34 : decode cX9_run 34 = Except.ok (Instr.aload_n 0, 1) := by decide +kernel
theorem dX9_run_35 : decode cX9_run 35 = Except.ok (Instr.invokevirtual 282, 3) := by decide +kernel
theorem dX9_run_38 : decode cX9_run 38 = Except.ok (Instr.iinc 2 1, 3) := by decide +kernel
theorem dX9_run_41 : decode cX9_run 41 = Except.ok (Instr.goto (-12), 3) := by decide +kernel
theorem dX9_run_44 : decode cX9_run 44 = Except.ok (Instr.aload_n 0, 1) := by decide +kernel
theorem dX9_run_45 : decode cX9_run 45 = Except.ok (Instr.getfield 153, 3) := by decide +kernel
theorem dX9_run_48 : decode cX9_run 48 = Except.ok (Instr.ireturn, 1) := by decide +kernel
theorem dX9_time_0 : decode cX9_time 0 = Except.ok (Instr.aload_n 0, 1) := by decide +kernel
theorem dX9_time_1 : decode cX9_time 1 = Except.ok (Instr.getfield 153, 3) := by decide +kernel
theorem dX9_time_4 : decode cX9_time 4 = Except.ok (Instr.ireturn, 1) := by decide +kernel
theorem dX9_gyro_0 : decode cX9_gyro 0 = Except.ok (Instr.iload_n 1, 1) := by decide +kernel
theorem dX9_gyro_1 : decode cX9_gyro 1 = Except.ok (Instr.invokestatic 180, 3) := by decide +kernel
theorem dX9_gyro_4 : decode cX9_gyro 4 = Except.ok (Instr.ifCond .eq 12, 3) := by decide +kernel
theorem dX9_gyro_7 : decode cX9_gyro 7 = Except.ok (Instr.aload_n 0, 1) := by decide +kernel
theorem dX9_gyro_8 : decode cX9_gyro 8 = Except.ok (Instr.getfield 56, 3) := by decide +kernel
theorem dX9_gyro_11 : decode cX9_gyro 11 = Except.ok (Instr.iload_n 1, 1) := by decide +kernel
theorem dX9_gyro_12 : decode cX9_gyro 12 = Except.ok (Instr.laload, 1) := by decide +kernel
theorem dX9_gyro_13 : decode cX9_gyro 13 = Except.ok (Instr.goto 4, 3) := by decide +kernel
theorem dX9_gyro_16 : decode cX9_gyro 16 = Except.ok (Instr.lconst 0, 1) := by decide +kernel
theorem dX9_gyro_17 : decode cX9_gyro 17 = Except.ok (Instr.lreturn, 1) := by decide +kernel
theorem dX9_accelerometer_0 : decode cX9_accelerometer 0 = Except.ok (Instr.iload_n 1, 1) := by decide +kernel
theorem dX9_accelerometer_1 : decode cX9_accelerometer 1 = Except.ok (Instr.invokestatic 180, 3) := by decide +kernel
theorem dX9_accelerometer_4 : decode cX9_accelerometer 4 = Except.ok (Instr.ifCond .eq 12, 3) := by decide +kernel
theorem dX9_accelerometer_7 : decode cX9_accelerometer 7 = Except.ok (Instr.aload_n 0, 1) := by decide +kernel
theorem dX9_accelerometer_8 : decode cX9_accelerometer 8 = Except.ok (Instr.getfield 59, 3) := by decide +kernel
theorem dX9_accelerometer_11 : decode cX9_accelerometer 11 = Except.ok (Instr.iload_n 1, 1) := by decide +kernel
theorem dX9_accelerometer_12 : decode cX9_accelerometer 12 = Except.ok (Instr.laload, 1) := by decide +kernel
theorem dX9_accelerometer_13 : decode cX9_accelerometer 13 = Except.ok (Instr.goto 4, 3) := by decide +kernel
theorem dX9_accelerometer_16 : decode cX9_accelerometer 16 = Except.ok (Instr.lconst 0, 1) := by decide +kernel
theorem dX9_accelerometer_17 : decode cX9_accelerometer 17 = Except.ok (Instr.lreturn, 1) := by decide +kernel
theorem dX9_setMethod_0 : decode cX9_setMethod 0 = Except.ok (Instr.iload_n 1, 1) := by decide +kernel
theorem dX9_setMethod_1 : decode cX9_setMethod 1 = Except.ok (Instr.i2l, 1) := by decide +kernel
theorem dX9_setMethod_2 : decode cX9_setMethod 2 = Except.ok (Instr.lconst 0, 1) := by decide +kernel
theorem dX9_setMethod_3 : decode cX9_setMethod 3 = Except.ok (Instr.ldc2_w 105, 3) := by decide +kernel
theorem dX9_setMethod_6 : decode cX9_setMethod 6 = Except.ok (Instr.invokestatic 107, 3) := by decide +kernel
theorem dX9_setMethod_9 : decode cX9_setMethod 9 = Except.ok (Instr.ifCond .ne 6, 3) := by decide +kernel
theorem dX9_setMethod_12 : decode cX9_setMethod 12 = Except.ok (Instr.bipush (-2), 2) := by decide +kernel
theorem dX9_setMethod_14 : decode cX9_setMethod 14 = Except.ok (Instr.ireturn, 1) := by decide +kernel
theorem dX9_setMethod_15 : decode cX9_setMethod 15 = Except.ok (Instr.aload_n 0, 1) := by decide +kernel
theorem dX9_setMethod_16 : decode cX9_setMethod 16 = Except.ok (Instr.getfield 159, 3) := by decide +kernel
theorem dX9_setMethod_19 : decode cX9_setMethod 19 = Except.ok (Instr.istore_n 2, 1) := by decide +kernel
theorem dX9_setMethod_20 : decode cX9_setMethod 20 = Except.ok (Instr.aload_n 0, 1) := by decide +kernel
theorem dX9_setMethod_21 : decode cX9_setMethod 21 = Except.ok (Instr.iload_n 1, 1) := by decide +kernel
theorem dX9_setMethod_22 : decode cX9_setMethod 22 = Except.ok (Instr.putfield 159, 3) := by decide +kernel
theorem dX9_setMethod_25 : decode cX9_setMethod 25 = Except.ok (Instr.iload_n 2, 1) := by decide +kernel
theorem dX9_setMethod_26 : decode cX9_setMethod 26 = Except.ok (Instr.ireturn, 1) := by decide +kernel
theorem dX9_setLevelling_0 : decode cX9_setLevelling 0 = Except.ok (Instr.iload_n 1, 1) := by decide +kernel
theorem dX9_setLevelling_1 : decode cX9_setLevelling 1 = Except.ok (Instr.i2l, 1) := by decide +kernel
theorem dX9_setLevelling_2 : decode cX9_setLevelling 2 = Except.ok (Instr.lconst 0, 1) := by decide +kernel
theorem dX9_setLevelling_3 : decode cX9_setLevelling 3 = Except.ok (Instr.ldc2_w 285, 3) := by decide +kernel
theorem dX9_setLevelling_6 : decode cX9_setLevelling 6 = Except.ok (Instr.invokestatic 107, 3) := by decide +kernel
theorem dX9_setLevelling_9 : decode cX9_setLevelling 9 = Except.ok (Instr.ifCond .ne 6, 3) := by decide +kernel
theorem dX9_setLevelling_12 : decode cX9_setLevelling 12 = Except.ok (Instr.bipush (-2), 2) := by decide +kernel
theorem dX9_setLevelling_14 : decode cX9_setLevelling 14 = Except.ok (Instr.ireturn, 1) := by decide +kernel
theorem dX9_setLevelling_15 : decode cX9_setLevelling 15 = Except.ok (Instr.aload_n 0, 1) := by decide +kernel
theorem dX9_setLevelling_16 : decode cX9_setLevelling 16 = Except.ok (Instr.getfield 162, 3) := by decide +kernel
theorem dX9_setLevelling_19 : decode cX9_setLevelling 19 = Except.ok (Instr.istore_n 2, 1) := by decide +kernel
theorem dX9_setLevelling_20 : decode cX9_setLevelling 20 = Except.ok (Instr.aload_n 0, 1) := by decide +kernel
theorem dX9_setLevelling_21 : decode cX9_setLevelling 21 = Except.ok (Instr.iload_n 1, 1) := by decide +kernel
theorem dX9_setLevelling_22 : decode cX9_setLevelling 22 = Except.ok (Instr.putfield 162, 3) := by decide +kernel
theorem dX9_setLevelling_25 : decode cX9_setLevelling 25 = Except.ok (Instr.iload_n 2, 1) := by decide +kernel
theorem dX9_setLevelling_26 : decode cX9_setLevelling 26 = Except.ok (Instr.ireturn, 1) := by decide +kernel
theorem dX9_setHeading_0 : decode cX9_setHeading 0 = Except.ok (Instr.iload_n 1, 1) := by decide +kernel
theorem dX9_setHeading_1 : decode cX9_setHeading 1 = Except.ok (Instr.i2l, 1) := by decide +kernel
theorem dX9_setHeading_2 : decode cX9_setHeading 2 = Except.ok (Instr.lconst 0, 1) := by decide +kernel
theorem dX9_setHeading_3 : decode cX9_setHeading 3 = Except.ok (Instr.ldc2_w 285, 3) := by decide +kernel
theorem dX9_setHeading_6 : decode cX9_setHeading 6 = Except.ok (Instr.invokestatic 107, 3) := by decide +kernel
theorem dX9_setHeading_9 : decode cX9_setHeading 9 = Except.ok (Instr.ifCond .ne 6, 3) := by decide +kernel
theorem dX9_setHeading_12 : decode cX9_setHeading 12 = Except.ok (Instr.bipush (-2), 2) := by decide +kernel
theorem dX9_setHeading_14 : decode cX9_setHeading 14 = Except.ok (Instr.ireturn, 1) := by decide +kernel
theorem dX9_setHeading_15 : decode cX9_setHeading 15 = Except.ok (Instr.aload_n 0, 1) := by decide +kernel
theorem dX9_setHeading_16 : decode cX9_setHeading 16 = Except.ok (Instr.getfield 165, 3) := by decide +kernel
theorem dX9_setHeading_19 : decode cX9_setHeading 19 = Except.ok (Instr.istore_n 2, 1) := by decide +kernel
theorem dX9_setHeading_20 : decode cX9_setHeading 20 = Except.ok (Instr.aload_n 0, 1) := by decide +kernel
theorem dX9_setHeading_21 : decode cX9_setHeading 21 = Except.ok (Instr.iload_n 1, 1) := by decide +kernel
theorem dX9_setHeading_22 : decode cX9_setHeading 22 = Except.ok (Instr.putfield 165, 3) := by decide +kernel
theorem dX9_setHeading_25 : decode cX9_setHeading 25 = Except.ok (Instr.iload_n 2, 1) := by decide +kernel
theorem dX9_setHeading_26 : decode cX9_setHeading 26 = Except.ok (Instr.ifCond .ne 27, 3) := by decide +kernel
theorem dX9_setHeading_29 : decode cX9_setHeading 29 = Except.ok (Instr.iload_n 1, 1) := by decide +kernel
theorem dX9_setHeading_30 : decode cX9_setHeading 30 = Except.ok (Instr.ifCond .le 23, 3) := by decide +kernel
theorem dX9_setHeading_33 : decode cX9_setHeading 33 = Except.ok (Instr.iconst 0, 1) := by decide +kernel
theorem dX9_setHeading_34 : decode cX9_setHeading 34 = Except.ok (Instr.istore_n 3, 1) := by decide +kernel
theorem dX9_setHeading_35 : decode cX9_setHeading 35 = Except.ok (Instr.iload_n 3, 1) := by decide +kernel
theorem dX9_setHeading_36 : decode cX9_setHeading 36 = Except.ok (Instr.iconst 3, 1) := by decide +kernel
theorem dX9_setHeading_37 : decode cX9_setHeading 37 = Except.ok (Instr.if_icmp .ge 16, 3) := by decide +kernel
theorem dX9_setHeading_40 : decode cX9_setHeading 40 = Except.ok (Instr.aload_n 0, 1) := by decide +kernel
theorem dX9_setHeading_41 : decode cX9_setHeading 41 = Except.ok (Instr.getfield 77, 3) := by decide +kernel
theorem dX9_setHeading_44 : decode cX9_setHeading 44 = Except.ok (Instr.iload_n 3, 1) := by decide +kernel
theorem dX9_setHeading_45 : decode cX9_setHeading 45 = Except.ok (Instr.lconst 0, 1) := by decide +kernel
theorem dX9_setHeading_46 : decode cX9_setHeading 46 = Except.ok (Instr.lastore, 1) := by decide +kernel
theorem dX9_setHeading_47 : decode cX9_setHeading 47 = Except.ok (Instr.iinc 3 1, 3) := by decide +kernel
theorem dX9_setHeading_50 : decode cX9_setHeading 50 = Except.ok (Instr.goto (-15), 3) := by decide +kernel
theorem dX9_setHeading_53 : decode cX9_setHeading 53 = Except.ok (Instr.iload_n 2, 1) := by decide +kernel
theorem dX9_setHeading_54 : decode cX9_setHeading 54 = Except.ok (Instr.ireturn, 1) := by decide +kernel
theorem dX9_startCalibration_0 : decode cX9_startCalibration 0 = Except.ok (Instr.iload_n 1, 1) := by decide +kernel
theorem dX9_startCalibration_1 : decode cX9_startCalibration 1 = Except.ok (Instr.i2l, 1) := by decide +kernel
theorem dX9_startCalibration_2 : decode cX9_startCalibration 2 = Except.ok (Instr.lconst 1, 1) := by decide +kernel
theorem dX9_startCalibration_3 : decode cX9_startCalibration 3 = Except.ok (Instr.ldc2_w 194, 3) := by decide +kernel
theorem dX9_startCalibration_6 : decode cX9_startCalibration 6 = Except.ok (Instr.invokestatic 107, 3) := by decide +kernel
theorem dX9_startCalibration_9 : decode cX9_startCalibration 9 = Except.ok (Instr.ifCond .ne 6, 3) := by decide +kernel
theorem dX9_startCalibration_12 : decode cX9_startCalibration 12 = Except.ok (Instr.bipush (-2), 2) := by decide +kernel
theorem dX9_startCalibration_14 : decode cX9_startCalibration 14 = Except.ok (Instr.ireturn, 1) := by decide +kernel
theorem dX9_startCalibration_15 : decode cX9_startCalibration 15 = Except.ok (Instr.aload_n 0, 1) := by decide +kernel
theorem dX9_startCalibration_16 : decode cX9_startCalibration 16 = Except.ok (Instr.getfield 168, 3) := by decide +kernel
theorem dX9_startCalibration_19 : decode cX9_startCalibration 19 = Except.ok (Instr.ifCond .le 6, 3) := by decide +kernel
theorem dX9_startCalibration_22 : decode cX9_startCalibration 22 = Except.ok (Instr.bipush (-4), 2) := by decide +kernel
theorem dX9_startCalibration_24 : decode cX9_startCalibration 24 = Except.ok (Instr.ireturn, 1) := by decide +kernel
theorem dX9_startCalibration_25 : decode cX9_startCalibration 25 = Except.ok (Instr.aload_n 0, 1) := by decide +kernel
theorem dX9_startCalibration_26 : decode cX9_startCalibration 26 = Except.ok (Instr.iload_n 1, 1) := by decide +kernel
theorem dX9_startCalibration_27 : decode cX9_startCalibration 27 = Except.ok (Instr.putfield 168, 3) := by decide +kernel
theorem dX9_startCalibration_30 : decode cX9_startCalibration 30 = Except.ok (Instr.aload_n 0, 1) := by decide +kernel
theorem dX9_startCalibration_31 : decode cX9_startCalibration 31 = Except.ok (Instr.iload_n 1, 1) := by decide +kernel
theorem dX9_startCalibration_32 : decode cX9_startCalibration 32 = Except.ok (Instr.putfield 171, 3) := by decide +kernel
theorem dX9_startCalibration_35 : decode cX9_startCalibration 35 = Except.ok (Instr.iconst 0, 1) := by decide +kernel
theorem dX9_startCalibration_36 : decode cX9_startCalibration 36 = Except.ok (Instr.istore_n 2, 1) := by decide +kernel
theorem dX9_startCalibration_37 : decode cX9_startCalibration 37 = Except.ok (Instr.iload_n 2, 1) := by decide +kernel
theorem dX9_startCalibration_38 : decode cX9_startCalibration 38 = Except.ok (Instr.iconst 3, 1) := by decide +kernel
theorem dX9_startCalibration_39 : decode cX9_startCalibration 39 = Except.ok (Instr.if_icmp .ge 16, 3) := by decide +kernel
theorem dX9_startCalibration_42 : decode cX9_startCalibration 42 = Except.ok (Instr.aload_n 0, 1) := by decide +kernel
theorem dX9_startCalibration_43 : decode cX9_startCalibration 43 = Except.ok (Instr.getfield 74, 3) := by decide +kernel
theorem dX9_startCalibration_46 : decode cX9_startCalibration 46 = Except.ok (Instr.iload_n 2, 1) := by decide +kernel
theorem dX9_startCalibration_47 : decode cX9_startCalibration 47 = Except.ok (Instr.lconst 0, 1) := by decide +kernel
theorem dX9_startCalibration_48 : decode cX9_startCalibration 48 = Except.ok (Instr.lastore, 1) := by decide +kernel
theorem dX9_startCalibration_49 : decode cX9_startCalibration 49 = Except.ok (Instr.iinc 2 1, 3) := by decide +kernel
theorem dX9_startCalibration_52 : decode cX9_startCalibration 52 = Except.ok (Instr.goto (-15), 3) := by decide +kernel
theorem dX9_startCalibration_55 : decode cX9_startCalibration 55 = Except.ok (Instr.iconst 0, 1) := by decide +kernel
theorem dX9_startCalibration_56 : decode cX9_startCalibration 56 = Except.ok (Instr.ireturn, 1) := by decide +kernel
theorem dX9_calibrationLeft_0 : decode cX9_calibrationLeft 0 = Except.ok (Instr.aload_n 0, 1) := by decide +kernel
theorem dX9_calibrationLeft_1 : decode cX9_calibrationLeft 1 = Except.ok (Instr.getfield 168, 3) := by decide +kernel
theorem dX9_calibrationLeft_4 : decode cX9_calibrationLeft 4 = Except.ok (Instr.ireturn, 1) := by decide +kernel
theorem dX9_biasEstimate_0 : decode cX9_biasEstimate 0 = Except.ok (Instr.iload_n 1, 1) := by decide +kernel
theorem dX9_biasEstimate_1 : decode cX9_biasEstimate 1 = Except.ok (Instr.invokestatic 180, 3) := by decide +kernel
theorem dX9_biasEstimate_4 : decode cX9_biasEstimate 4 = Except.ok (Instr.ifCond .eq 12, 3) := by decide +kernel
theorem dX9_biasEstimate_7 : decode cX9_biasEstimate 7 = Except.ok (Instr.aload_n 0, 1) := by decide +kernel
theorem dX9_biasEstimate_8 : decode cX9_biasEstimate 8 = Except.ok (Instr.getfield 71, 3) := by decide +kernel
theorem dX9_biasEstimate_11 : decode cX9_biasEstimate 11 = Except.ok (Instr.iload_n 1, 1) := by decide +kernel
theorem dX9_biasEstimate_12 : decode cX9_biasEstimate 12 = Except.ok (Instr.laload, 1) := by decide +kernel
theorem dX9_biasEstimate_13 : decode cX9_biasEstimate 13 = Except.ok (Instr.goto 4, 3) := by decide +kernel
theorem dX9_biasEstimate_16 : decode cX9_biasEstimate 16 = Except.ok (Instr.lconst 0, 1) := by decide +kernel
theorem dX9_biasEstimate_17 : decode cX9_biasEstimate 17 = Except.ok (Instr.lreturn, 1) := by decide +kernel
theorem dX9_isBin_0 : decode cX9_isBin 0 = Except.ok (Instr.iload_n 0, 1) := by decide +kernel
theorem dX9_isBin_1 : decode cX9_isBin 1 = Except.ok (Instr.i2l, 1) := by decide +kernel
theorem dX9_isBin_2 : decode cX9_isBin 2 = Except.ok (Instr.ldc2_w 287, 3) := by decide +kernel
theorem dX9_isBin_5 : decode cX9_isBin 5 = Except.ok (Instr.ldc2_w 289, 3) := by decide +kernel
theorem dX9_isBin_8 : decode cX9_isBin 8 = Except.ok (Instr.invokestatic 107, 3) := by decide +kernel
theorem dX9_isBin_11 : decode cX9_isBin 11 = Except.ok (Instr.ireturn, 1) := by decide +kernel
theorem dX9_compensationAt_0 : decode cX9_compensationAt 0 = Except.ok (Instr.aload_n 0, 1) := by decide +kernel
theorem dX9_compensationAt_1 : decode cX9_compensationAt 1 = Except.ok (Instr.getfield 86, 3) := by decide +kernel
theorem dX9_compensationAt_4 : decode cX9_compensationAt 4 = Except.ok (Instr.bipush 13, 2) := by decide +kernel
theorem dX9_compensationAt_6 : decode cX9_compensationAt 6 = Except.ok (Instr.iload_n 1, 1) := by decide +kernel
theorem dX9_compensationAt_7 : decode cX9_compensationAt 7 = Except.ok (Instr.imul, 1) := by decide +kernel
theorem dX9_compensationAt_8 : decode cX9_compensationAt 8 = Except.ok (Instr.iload_n 2, 1) := by decide +kernel
theorem dX9_compensationAt_9 : decode cX9_compensationAt 9 = Except.ok (Instr.iadd, 1) := by decide +kernel
theorem dX9_compensationAt_10 : decode cX9_compensationAt 10 = Except.ok (Instr.baload, 1) := by decide +kernel
theorem dX9_compensationAt_11 : decode cX9_compensationAt 11 = Except.ok (Instr.ifCond .eq 17, 3) := by decide +kernel
theorem dX9_compensationAt_14 : decode cX9_compensationAt 14 = Except.ok (Instr.aload_n 0, 1) := by decide +kernel
theorem dX9_compensationAt_15 : decode cX9_compensationAt 15 = Except.ok (Instr.getfield 83, 3) := by decide +kernel
theorem dX9_compensationAt_18 : decode cX9_compensationAt 18 = Except.ok (Instr.bipush 13, 2) := by decide +kernel
theorem dX9_compensationAt_20 : decode cX9_compensationAt 20 = Except.ok (Instr.iload_n 1, 1) := by decide +kernel
theorem dX9_compensationAt_21 : decode cX9_compensationAt 21 = Except.ok (Instr.imul, 1) := by decide +kernel
theorem dX9_compensationAt_22 : decode cX9_compensationAt 22 = Except.ok (Instr.iload_n 2, 1) := by decide +kernel
theorem dX9_compensationAt_23 : decode cX9_compensationAt 23 = Except.ok (Instr.iadd, 1) := by decide +kernel
theorem dX9_compensationAt_24 : decode cX9_compensationAt 24 = Except.ok (Instr.iaload, 1) := by decide +kernel
theorem dX9_compensationAt_25 : decode cX9_compensationAt 25 = Except.ok (Instr.goto 4, 3) := by decide +kernel
theorem dX9_compensationAt_28 : decode cX9_compensationAt 28 = Except.ok (Instr.iconst 0, 1) := by decide +kernel
theorem dX9_compensationAt_29 : decode cX9_compensationAt 29 = Except.ok (Instr.ireturn, 1) := by decide +kernel
theorem dX9_values_0 : decode cX9_values 0 = Except.ok (Instr.iconst 0, 1) := by decide +kernel
theorem dX9_values_1 : decode cX9_values 1 = Except.ok (Instr.istore_n 1, 1) := by decide +kernel
theorem dX9_values_2 : decode cX9_values 2 = Except.ok (Instr.iconst 0, 1) := by decide +kernel
theorem dX9_values_3 : decode cX9_values 3 = Except.ok (Instr.istore_n 2, 1) := by decide +kernel
theorem dX9_values_4 : decode cX9_values 4 = Except.ok (Instr.iload_n 2, 1) := by decide +kernel
theorem dX9_values_5 : decode cX9_values 5 = Except.ok (Instr.bipush 39, 2) := by decide +kernel
theorem dX9_values_7 : decode cX9_values 7 = Except.ok (Instr.if_icmp .ge 26, 3) := by decide +kernel
theorem dX9_values_10 : decode cX9_values 10 = Except.ok (Instr.iload_n 1, 1) := by decide +kernel
theorem dX9_values_11 : decode cX9_values 11 = Except.ok (Instr.aload_n 0, 1) := by decide +kernel
theorem dX9_values_12 : decode cX9_values 12 = Except.ok (Instr.getfield 86, 3) := by decide +kernel
theorem dX9_values_15 : decode cX9_values 15 = Except.ok (Instr.iload_n 2, 1) := by decide +kernel
theorem dX9_values_16 : decode cX9_values 16 = Except.ok (Instr.baload, 1) := by decide +kernel
theorem dX9_values_17 : decode cX9_values 17 = Except.ok (Instr.ifCond .eq 7, 3) := by decide +kernel
theorem dX9_values_20 : decode cX9_values 20 = Except.ok (Instr.iconst 1, 1) := by decide +kernel
theorem dX9_values_21 : decode cX9_values 21 = Except.ok (Instr.goto 4, 3) := by decide +kernel
theorem dX9_values_24 : decode cX9_values 24 = Except.ok (Instr.iconst 0, 1) := by decide +kernel
theorem dX9_values_25 : decode cX9_values 25 = Except.ok (Instr.iadd, 1) := by decide +kernel
theorem dX9_values_26 : decode cX9_values 26 = Except.ok (Instr.istore_n 1, 1) := by decide +kernel
theorem dX9_values_27 : decode cX9_values 27 = Except.ok (Instr.iinc 2 1, 3) := by decide +kernel
theorem dX9_values_30 : decode cX9_values 30 = Except.ok (Instr.goto (-26), 3) := by decide +kernel
theorem dX9_values_33 : decode cX9_values 33 = Except.ok (Instr.iload_n 1, 1) := by decide +kernel
theorem dX9_values_34 : decode cX9_values 34 = Except.ok (Instr.ireturn, 1) := by decide +kernel
theorem dX9_compensates_0 : decode cX9_compensates 0 = Except.ok (Instr.aload_n 0, 1) := by decide +kernel
theorem dX9_compensates_1 : decode cX9_compensates 1 = Except.ok (Instr.getfield 86, 3) := by decide +kernel
theorem dX9_compensates_4 : decode cX9_compensates 4 = Except.ok (Instr.bipush 13, 2) := by decide +kernel
theorem dX9_compensates_6 : decode cX9_compensates 6 = Except.ok (Instr.iload_n 1, 1) := by decide +kernel
theorem dX9_compensates_7 : decode cX9_compensates 7 = Except.ok (Instr.imul, 1) := by decide +kernel
theorem dX9_compensates_8 : decode cX9_compensates 8 = Except.ok (Instr.iload_n 2, 1) := by decide +kernel
theorem dX9_compensates_9 : decode cX9_compensates 9 = Except.ok (Instr.iadd, 1) := by decide +kernel
theorem dX9_compensates_10 : decode cX9_compensates 10 = Except.ok (Instr.iconst 1, 1) := by decide +kernel
theorem dX9_compensates_11 : decode cX9_compensates 11 = Except.ok (Instr.bastore, 1) := by decide +kernel
theorem dX9_compensates_12 : decode cX9_compensates 12 = Except.ok (Instr.aload_n 0, 1) := by decide +kernel
theorem dX9_compensates_13 : decode cX9_compensates 13 = Except.ok (Instr.getfield 83, 3) := by decide +kernel
theorem dX9_compensates_16 : decode cX9_compensates 16 = Except.ok (Instr.bipush 13, 2) := by decide +kernel
theorem dX9_compensates_18 : decode cX9_compensates 18 = Except.ok (Instr.iload_n 1, 1) := by decide +kernel
theorem dX9_compensates_19 : decode cX9_compensates 19 = Except.ok (Instr.imul, 1) := by decide +kernel
theorem dX9_compensates_20 : decode cX9_compensates 20 = Except.ok (Instr.iload_n 2, 1) := by decide +kernel
theorem dX9_compensates_21 : decode cX9_compensates 21 = Except.ok (Instr.iadd, 1) := by decide +kernel
theorem dX9_compensates_22 : decode cX9_compensates 22 = Except.ok (Instr.iload_n 3, 1) := by decide +kernel
theorem dX9_compensates_23 : decode cX9_compensates 23 = Except.ok (Instr.iastore, 1) := by decide +kernel
theorem dX9_compensates_24 : decode cX9_compensates 24 = Except.ok (Instr.return_, 1) := by decide +kernel
theorem dX9_setCompensation_0 : decode cX9_setCompensation 0 = Except.ok (Instr.iload_n 1, 1) := by decide +kernel
theorem dX9_setCompensation_1 : decode cX9_setCompensation 1 = Except.ok (Instr.invokestatic 180, 3) := by decide +kernel
theorem dX9_setCompensation_4 : decode cX9_setCompensation 4 = Except.ok (Instr.ifCond .eq 24, 3) := by decide +kernel
theorem dX9_setCompensation_7 : decode cX9_setCompensation 7 = Except.ok (Instr.iload_n 2, 1) := by decide +kernel
theorem dX9_setCompensation_8 : decode cX9_setCompensation 8 = Except.ok (Instr.invokestatic 291, 3) := by decide +kernel
theorem dX9_setCompensation_11 : decode cX9_setCompensation 11 = Except.ok (Instr.ifCond .eq 17, 3) := by decide +kernel
theorem dX9_setCompensation_14 : decode cX9_setCompensation 14 = Except.ok (Instr.iload_n 3, 1) := by decide +kernel
theorem dX9_setCompensation_15 : decode cX9_setCompensation 15 = Except.ok (Instr.i2l, 1) := by decide +kernel
theorem dX9_setCompensation_16 : decode cX9_setCompensation 16 = Except.ok (Instr.ldc2_w 294, 3) := by decide +kernel
theorem dX9_setCompensation_19 : decode cX9_setCompensation 19 = Except.ok (Instr.ldc2_w 230, 3) := by decide +kernel
theorem dX9_setCompensation_22 : decode cX9_setCompensation 22 = Except.ok (Instr.invokestatic 107, 3) := by decide +kernel
theorem dX9_setCompensation_25 : decode cX9_setCompensation 25 = Except.ok (Instr.ifCond .ne 6, 3) := by decide +kernel
theorem dX9_setCompensation_28 : decode cX9_setCompensation 28 = Except.ok (Instr.bipush (-2), 2) := by decide +kernel
theorem dX9_setCompensation_30 : decode cX9_setCompensation 30 = Except.ok (Instr.ireturn, 1) := by decide +kernel
theorem dX9_setCompensation_31 : decode cX9_setCompensation 31 = Except.ok (Instr.aload_n 0, 1) := by decide +kernel
theorem dX9_setCompensation_32 : decode cX9_setCompensation 32 = Except.ok (Instr.iload_n 1, 1) := by decide +kernel
theorem dX9_setCompensation_33 : decode cX9_setCompensation 33 = Except.ok (Instr.iload_n 2, 1) := by decide +kernel
theorem dX9_setCompensation_34 : decode cX9_setCompensation 34 = Except.ok (Instr.bipush (-4), 2) := by decide +kernel
theorem dX9_setCompensation_36 : decode cX9_setCompensation 36 = Except.ok (Instr.isub, 1) := by decide +kernel
theorem dX9_setCompensation_37 : decode cX9_setCompensation 37 = Except.ok (Instr.iload_n 3, 1) := by decide +kernel
theorem dX9_setCompensation_38 : decode cX9_setCompensation 38 = Except.ok (Instr.invokevirtual 296, 3) := by decide +kernel
theorem dX9_setCompensation_41 : decode cX9_setCompensation 41 = Except.ok (Instr.aload_n 0, 1) := by decide +kernel
theorem dX9_setCompensation_42 : decode cX9_setCompensation 42 = Except.ok (Instr.invokevirtual 300, 3) := by decide +kernel
theorem dX9_setCompensation_45 : decode cX9_setCompensation 45 = Except.ok (Instr.ireturn, 1) := by decide +kernel
theorem dX9_learnCompensation_0 : decode cX9_learnCompensation 0 = Except.ok (Instr.aload_n 0, 1) := by decide +kernel
theorem dX9_learnCompensation_1 : decode cX9_learnCompensation 1 = Except.ok (Instr.getfield 168, 3) := by decide +kernel
theorem dX9_learnCompensation_4 : decode cX9_learnCompensation 4 = Except.ok (Instr.ifCond .le 6, 3) := by decide +kernel
theorem dX9_learnCompensation_7 : decode cX9_learnCompensation 7 = Except.ok (Instr.bipush (-4), 2) := by decide +kernel
theorem dX9_learnCompensation_9 : decode cX9_learnCompensation 9 = Except.ok (Instr.ireturn, 1) := by decide +kernel
theorem dX9_learnCompensation_10 : decode cX9_learnCompensation 10 = Except.ok (Instr.iconst 0, 1) := by decide +kernel
theorem dX9_learnCompensation_11 : decode cX9_learnCompensation 11 = Except.ok (Instr.istore_n 1, 1) := by decide +kernel
theorem dX9_learnCompensation_12 : decode cX9_learnCompensation 12 = Except.ok (Instr.iload_n 1, 1) := by decide +kernel
theorem dX9_learnCompensation_13 : decode cX9_learnCompensation 13 = Except.ok (Instr.iconst 3, 1) := by decide +kernel
theorem dX9_learnCompensation_14 : decode cX9_learnCompensation 14 = Except.ok (Instr.if_icmp .ge 51, 3) := by decide +kernel
theorem dX9_learnCompensation_17 : decode cX9_learnCompensation 17 = Except.ok (Instr.aload_n 0, 1) := by decide +kernel
theorem dX9_learnCompensation_18 : decode cX9_learnCompensation 18 = Except.ok (Instr.iload_n 1, 1) := by decide +kernel
theorem dX9_learnCompensation_19 : decode cX9_learnCompensation 19 = Except.ok (Instr.aload_n 0, 1) := by decide +kernel
theorem dX9_learnCompensation_20 : decode cX9_learnCompensation 20 = Except.ok (Instr.invokevirtual 235, 3) := by decide +kernel
theorem dX9_learnCompensation_23 : decode cX9_learnCompensation 23 = Except.ok (Instr.invokevirtual 239, 3) := by decide +kernel
theorem dX9_learnCompensation_26 : decode cX9_learnCompensation 26 = Except.ok (Instr.i2l, 1) := by decide +kernel
theorem dX9_learnCompensation_27 : decode cX9_learnCompensation 27 = Except.ok (Instr.aload_n 0, 1) := by decide +kernel
theorem dX9_learnCompensation_28 : decode cX9_learnCompensation 28 = Except.ok (Instr.getfield 71, 3) := by decide +kernel
theorem dX9_learnCompensation_31 : decode cX9_learnCompensation 31 = Except.ok (Instr.iload_n 1, 1) := by decide +kernel
theorem dX9_learnCompensation_32 : decode cX9_learnCompensation 32 = Except.ok (Instr.laload, 1) := by decide +kernel
theorem dX9_learnCompensation_33 : decode cX9_learnCompensation 33 = Except.ok (Instr.ladd, 1) := by decide +kernel
theorem dX9_learnCompensation_34 : decode cX9_learnCompensation 34 = Except.ok (Instr.lstore_n 2, 1) := by decide +kernel
theorem dX9_learnCompensation_35 : decode cX9_learnCompensation 35 = Except.ok (Instr.aload_n 0, 1) := by decide +kernel
theorem dX9_learnCompensation_36 : decode cX9_learnCompensation 36 = Except.ok (Instr.iload_n 1, 1) := by decide +kernel
theorem dX9_learnCompensation_37 : decode cX9_learnCompensation 37 = Except.ok (Instr.aload_n 0, 1) := by decide +kernel
theorem dX9_learnCompensation_38 : decode cX9_learnCompensation 38 = Except.ok (Instr.invokevirtual 235, 3) := by decide +kernel
theorem dX9_learnCompensation_41 : decode cX9_learnCompensation 41 = Except.ok (Instr.lload_n 2, 1) := by decide +kernel
theorem dX9_learnCompensation_42 : decode cX9_learnCompensation 42 = Except.ok (Instr.ldc2_w 230, 3) := by decide +kernel
theorem dX9_learnCompensation_45 : decode cX9_learnCompensation 45 = Except.ok (Instr.invokestatic 254, 3) := by decide +kernel
theorem dX9_learnCompensation_48 : decode cX9_learnCompensation 48 = Except.ok (Instr.l2i, 1) := by decide +kernel
theorem dX9_learnCompensation_49 : decode cX9_learnCompensation 49 = Except.ok (Instr.invokevirtual 296, 3) := by decide +kernel
theorem dX9_learnCompensation_52 : decode cX9_learnCompensation 52 = Except.ok (Instr.aload_n 0, 1) := by decide +kernel
theorem dX9_learnCompensation_53 : decode cX9_learnCompensation 53 = Except.ok (Instr.getfield 71, 3) := by decide +kernel
theorem dX9_learnCompensation_56 : decode cX9_learnCompensation 56 = Except.ok (Instr.iload_n 1, 1) := by decide +kernel
theorem dX9_learnCompensation_57 : decode cX9_learnCompensation 57 = Except.ok (Instr.lconst 0, 1) := by decide +kernel
theorem dX9_learnCompensation_58 : decode cX9_learnCompensation 58 = Except.ok (Instr.lastore, 1) := by decide +kernel
theorem dX9_learnCompensation_59 : decode cX9_learnCompensation 59 = Except.ok (Instr.iinc 1 1, 3) := by decide +kernel
theorem dX9_learnCompensation_62 : decode cX9_learnCompensation 62 = Except.ok (Instr.goto (-50), 3) := by decide +kernel
theorem dX9_learnCompensation_65 : decode cX9_learnCompensation 65 = Except.ok (Instr.aload_n 0, 1) := by decide +kernel
theorem dX9_learnCompensation_66 : decode cX9_learnCompensation 66 = Except.ok (Instr.invokevirtual 300, 3) := by decide +kernel
theorem dX9_learnCompensation_69 : decode cX9_learnCompensation 69 = Except.ok (Instr.ireturn, 1) := by decide +kernel
theorem dX9_compensation_0 : decode cX9_compensation 0 = Except.ok (Instr.iload_n 1, 1) := by decide +kernel
theorem dX9_compensation_1 : decode cX9_compensation 1 = Except.ok (Instr.invokestatic 180, 3) := by decide +kernel
theorem dX9_compensation_4 : decode cX9_compensation 4 = Except.ok (Instr.ifCond .eq 22, 3) := by decide +kernel
theorem dX9_compensation_7 : decode cX9_compensation 7 = Except.ok (Instr.iload_n 2, 1) := by decide +kernel
theorem dX9_compensation_8 : decode cX9_compensation 8 = Except.ok (Instr.invokestatic 291, 3) := by decide +kernel
theorem dX9_compensation_11 : decode cX9_compensation 11 = Except.ok (Instr.ifCond .eq 15, 3) := by decide +kernel
theorem dX9_compensation_14 : decode cX9_compensation 14 = Except.ok (Instr.aload_n 0, 1) := by decide +kernel
theorem dX9_compensation_15 : decode cX9_compensation 15 = Except.ok (Instr.iload_n 1, 1) := by decide +kernel
theorem dX9_compensation_16 : decode cX9_compensation 16 = Except.ok (Instr.iload_n 2, 1) := by decide +kernel
theorem dX9_compensation_17 : decode cX9_compensation 17 = Except.ok (Instr.bipush (-4), 2) := by decide +kernel
theorem dX9_compensation_19 : decode cX9_compensation 19 = Except.ok (Instr.isub, 1) := by decide +kernel
theorem dX9_compensation_20 : decode cX9_compensation 20 = Except.ok (Instr.invokevirtual 239, 3) := by decide +kernel
theorem dX9_compensation_23 : decode cX9_compensation 23 = Except.ok (Instr.goto 4, 3) := by decide +kernel
theorem dX9_compensation_26 : decode cX9_compensation 26 = Except.ok (Instr.iconst 0, 1) := by decide +kernel
theorem dX9_compensation_27 : decode cX9_compensation 27 = Except.ok (Instr.ireturn, 1) := by decide +kernel
theorem dX9_forgetBin_0 : decode cX9_forgetBin 0 = Except.ok (Instr.aload_n 0, 1) := by decide +kernel
theorem dX9_forgetBin_1 : decode cX9_forgetBin 1 = Except.ok (Instr.invokevirtual 300, 3) := by decide +kernel
theorem dX9_forgetBin_4 : decode cX9_forgetBin 4 = Except.ok (Instr.istore_n 2, 1) := by decide +kernel
theorem dX9_forgetBin_5 : decode cX9_forgetBin 5 = Except.ok (Instr.iconst 0, 1) := by decide +kernel
theorem dX9_forgetBin_6 : decode cX9_forgetBin 6 = Except.ok (Instr.istore_n 3, 1) := by decide +kernel
theorem dX9_forgetBin_7 : decode cX9_forgetBin 7 = Except.ok (Instr.iload_n 3, 1) := by decide +kernel
theorem dX9_forgetBin_8 : decode cX9_forgetBin 8 = Except.ok (Instr.iconst 3, 1) := by decide +kernel
theorem dX9_forgetBin_9 : decode cX9_forgetBin 9 = Except.ok (Instr.if_icmp .ge 31, 3) := by decide +kernel
theorem dX9_forgetBin_12 : decode cX9_forgetBin 12 = Except.ok (Instr.iload_n 1, 1) := by decide +kernel
theorem dX9_forgetBin_13 : decode cX9_forgetBin 13 = Except.ok (Instr.invokestatic 291, 3) := by decide +kernel
theorem dX9_forgetBin_16 : decode cX9_forgetBin 16 = Except.ok (Instr.ifCond .eq 24, 3) := by decide +kernel
theorem dX9_forgetBin_19 : decode cX9_forgetBin 19 = Except.ok (Instr.aload_n 0, 1) := by decide +kernel
theorem dX9_forgetBin_20 : decode cX9_forgetBin 20 = Except.ok (Instr.getfield 86, 3) := by decide +kernel
theorem dX9_forgetBin_23 : decode cX9_forgetBin 23 = Except.ok (Instr.bipush 13, 2) := by decide +kernel
theorem dX9_forgetBin_25 : decode cX9_forgetBin 25 = Except.ok (Instr.iload_n 3, 1) := by decide +kernel
theorem dX9_forgetBin_26 : decode cX9_forgetBin 26 = Except.ok (Instr.imul, 1) := by decide +kernel
theorem dX9_forgetBin_27 : decode cX9_forgetBin 27 = Except.ok (Instr.iload_n 1, 1) := by decide +kernel
theorem dX9_forgetBin_28 : decode cX9_forgetBin 28 = Except.ok (Instr.iadd, 1) := by decide +kernel
theorem dX9_forgetBin_29 : decode cX9_forgetBin 29 = Except.ok (Instr.bipush (-4), 2) := by decide +kernel
theorem dX9_forgetBin_31 : decode cX9_forgetBin 31 = Except.ok (Instr.isub, 1) := by decide +kernel
theorem dX9_forgetBin_32 : decode cX9_forgetBin 32 = Except.ok (Instr.iconst 0, 1) := by decide +kernel
theorem dX9_forgetBin_33 : decode cX9_forgetBin 33 = Except.ok (Instr.bastore, 1) := by decide +kernel
theorem dX9_forgetBin_34 : decode cX9_forgetBin 34 = Except.ok (Instr.iinc 3 1, 3) := by decide +kernel
theorem dX9_forgetBin_37 : decode cX9_forgetBin 37 = Except.ok (Instr.goto (-30), 3) := by decide +kernel
theorem dX9_forgetBin_40 : decode cX9_forgetBin 40 = Except.ok (Instr.iload_n 2, 1) := by decide +kernel
theorem dX9_forgetBin_41 : decode cX9_forgetBin 41 = Except.ok (Instr.aload_n 0, 1) := by decide +kernel
theorem dX9_forgetBin_42 : decode cX9_forgetBin 42 = Except.ok (Instr.invokevirtual 300, 3) := by decide +kernel
theorem dX9_forgetBin_45 : decode cX9_forgetBin 45 = Except.ok (Instr.isub, 1) := by decide +kernel
theorem dX9_forgetBin_46 : decode cX9_forgetBin 46 = Except.ok (Instr.ireturn, 1) := by decide +kernel
theorem dX9_turnEstimate_0 : decode cX9_turnEstimate 0 = Except.ok (Instr.iload_n 1, 1) := by decide +kernel
theorem dX9_turnEstimate_1 : decode cX9_turnEstimate 1 = Except.ok (Instr.iload_n 2, 1) := by decide +kernel
theorem dX9_turnEstimate_2 : decode cX9_turnEstimate 2 = Except.ok (Instr.iload_n 3, 1) := by decide +kernel
theorem dX9_turnEstimate_3 : decode cX9_turnEstimate 3 = Except.ok (Instr.invokestatic 212, 3) := by decide +kernel
theorem dX9_turnEstimate_6 : decode cX9_turnEstimate 6 = Except.ok (Instr.ifCond .ne 6, 3) := by decide +kernel
theorem dX9_turnEstimate_9 : decode cX9_turnEstimate 9 = Except.ok (Instr.bipush (-2), 2) := by decide +kernel
theorem dX9_turnEstimate_11 : decode cX9_turnEstimate 11 = Except.ok (Instr.ireturn, 1) := by decide +kernel
theorem dX9_turnEstimate_12 : decode cX9_turnEstimate 12 = Except.ok (Instr.aload_n 0, 1) := by decide +kernel
theorem dX9_turnEstimate_13 : decode cX9_turnEstimate 13 = Except.ok (Instr.aload_n 0, 1) := by decide +kernel
theorem dX9_turnEstimate_14 : decode cX9_turnEstimate 14 = Except.ok (Instr.getfield 13, 3) := by decide +kernel
theorem dX9_turnEstimate_17 : decode cX9_turnEstimate 17 = Except.ok (Instr.iload_n 1, 1) := by decide +kernel
theorem dX9_turnEstimate_18 : decode cX9_turnEstimate 18 = Except.ok (Instr.i2l, 1) := by decide +kernel
theorem dX9_turnEstimate_19 : decode cX9_turnEstimate 19 = Except.ok (Instr.iload_n 2, 1) := by decide +kernel
theorem dX9_turnEstimate_20 : decode cX9_turnEstimate 20 = Except.ok (Instr.i2l, 1) := by decide +kernel
theorem dX9_turnEstimate_21 : decode cX9_turnEstimate 21 = Except.ok (Instr.iload_n 3, 1) := by decide +kernel
theorem dX9_turnEstimate_22 : decode cX9_turnEstimate 22 = Except.ok (Instr.i2l, 1) := by decide +kernel
theorem dX9_turnEstimate_23 : decode cX9_turnEstimate 23 = Except.ok (Instr.iconst 0, 1) := by decide +kernel
theorem dX9_turnEstimate_24 : decode cX9_turnEstimate 24 = Except.ok (Instr.invokevirtual 216, 3) := by decide +kernel
theorem dX9_turnEstimate_27 : decode cX9_turnEstimate 27 = Except.ok (Instr.iconst 0, 1) := by decide +kernel
theorem dX9_turnEstimate_28 : decode cX9_turnEstimate 28 = Except.ok (Instr.ireturn, 1) := by decide +kernel
theorem dX9_estimate_0 : decode cX9_estimate 0 = Except.ok (Instr.iload_n 1, 1) := by decide +kernel
theorem dX9_estimate_1 : decode cX9_estimate 1 = Except.ok (Instr.i2l, 1) := by decide +kernel
theorem dX9_estimate_2 : decode cX9_estimate 2 = Except.ok (Instr.lconst 0, 1) := by decide +kernel
theorem dX9_estimate_3 : decode cX9_estimate 3 = Except.ok (Instr.ldc2_w 303, 3) := by decide +kernel
theorem dX9_estimate_6 : decode cX9_estimate 6 = Except.ok (Instr.invokestatic 107, 3) := by decide +kernel
theorem dX9_estimate_9 : decode cX9_estimate 9 = Except.ok (Instr.ifCond .eq 12, 3) := by decide +kernel
theorem dX9_estimate_12 : decode cX9_estimate 12 = Except.ok (Instr.aload_n 0, 1) := by decide +kernel
theorem dX9_estimate_13 : decode cX9_estimate 13 = Except.ok (Instr.getfield 13, 3) := by decide +kernel
theorem dX9_estimate_16 : decode cX9_estimate 16 = Except.ok (Instr.iload_n 1, 1) := by decide +kernel
theorem dX9_estimate_17 : decode cX9_estimate 17 = Except.ok (Instr.laload, 1) := by decide +kernel
theorem dX9_estimate_18 : decode cX9_estimate 18 = Except.ok (Instr.goto 4, 3) := by decide +kernel
theorem dX9_estimate_21 : decode cX9_estimate 21 = Except.ok (Instr.lconst 0, 1) := by decide +kernel
theorem dX9_estimate_22 : decode cX9_estimate 22 = Except.ok (Instr.lreturn, 1) := by decide +kernel
theorem dX9_truth_0 : decode cX9_truth 0 = Except.ok (Instr.iload_n 1, 1) := by decide +kernel
theorem dX9_truth_1 : decode cX9_truth 1 = Except.ok (Instr.i2l, 1) := by decide +kernel
theorem dX9_truth_2 : decode cX9_truth 2 = Except.ok (Instr.lconst 0, 1) := by decide +kernel
theorem dX9_truth_3 : decode cX9_truth 3 = Except.ok (Instr.ldc2_w 303, 3) := by decide +kernel
theorem dX9_truth_6 : decode cX9_truth 6 = Except.ok (Instr.invokestatic 107, 3) := by decide +kernel
theorem dX9_truth_9 : decode cX9_truth 9 = Except.ok (Instr.ifCond .eq 12, 3) := by decide +kernel
theorem dX9_truth_12 : decode cX9_truth 12 = Except.ok (Instr.aload_n 0, 1) := by decide +kernel
theorem dX9_truth_13 : decode cX9_truth 13 = Except.ok (Instr.getfield 7, 3) := by decide +kernel
theorem dX9_truth_16 : decode cX9_truth 16 = Except.ok (Instr.iload_n 1, 1) := by decide +kernel
theorem dX9_truth_17 : decode cX9_truth 17 = Except.ok (Instr.laload, 1) := by decide +kernel
theorem dX9_truth_18 : decode cX9_truth 18 = Except.ok (Instr.goto 4, 3) := by decide +kernel
theorem dX9_truth_21 : decode cX9_truth 21 = Except.ok (Instr.lconst 0, 1) := by decide +kernel
theorem dX9_truth_22 : decode cX9_truth 22 = Except.ok (Instr.lreturn, 1) := by decide +kernel
theorem dX9_errorAngle_0 : decode cX9_errorAngle 0 = Except.ok (Instr.aload_n 0, 1) := by decide +kernel
theorem dX9_errorAngle_1 : decode cX9_errorAngle 1 = Except.ok (Instr.aload_n 0, 1) := by decide +kernel
theorem dX9_errorAngle_2 : decode cX9_errorAngle 2 = Except.ok (Instr.getfield 7, 3) := by decide +kernel
theorem dX9_errorAngle_5 : decode cX9_errorAngle 5 = Except.ok (Instr.aload_n 0, 1) := by decide +kernel
theorem dX9_errorAngle_6 : decode cX9_errorAngle 6 = Except.ok (Instr.getfield 13, 3) := by decide +kernel
theorem dX9_errorAngle_9 : decode cX9_errorAngle 9 = Except.ok (Instr.invokevirtual 275, 3) := by decide +kernel
theorem dX9_errorAngle_12 : decode cX9_errorAngle 12 = Except.ok (Instr.lreturn, 1) := by decide +kernel
theorem dX9_greatestError_0 : decode cX9_greatestError 0 = Except.ok (Instr.aload_n 0, 1) := by decide +kernel
theorem dX9_greatestError_1 : decode cX9_greatestError 1 = Except.ok (Instr.getfield 174, 3) := by decide +kernel
theorem dX9_greatestError_4 : decode cX9_greatestError 4 = Except.ok (Instr.lreturn, 1) := by decide +kernel
theorem dX9_tiltError_0 : decode cX9_tiltError 0 = Except.ok (Instr.aload_n 0, 1) := by decide +kernel
theorem dX9_tiltError_1 : decode cX9_tiltError 1 = Except.ok (Instr.aload_n 0, 1) := by decide +kernel
theorem dX9_tiltError_2 : decode cX9_tiltError 2 = Except.ok (Instr.getfield 7, 3) := by decide +kernel
theorem dX9_tiltError_5 : decode cX9_tiltError 5 = Except.ok (Instr.invokevirtual 232, 3) := by decide +kernel
theorem dX9_tiltError_8 : decode cX9_tiltError 8 = Except.ok (Instr.iconst 0, 1) := by decide +kernel
theorem dX9_tiltError_9 : decode cX9_tiltError 9 = Except.ok (Instr.istore_n 1, 1) := by decide +kernel
theorem dX9_tiltError_10 : decode cX9_tiltError 10 = Except.ok (Instr.iload_n 1, 1) := by decide +kernel
theorem dX9_tiltError_11 : decode cX9_tiltError 11 = Except.ok (Instr.iconst 3, 1) := by decide +kernel
theorem dX9_tiltError_12 : decode cX9_tiltError 12 = Except.ok (Instr.if_icmp .ge 21, 3) := by decide +kernel
theorem dX9_tiltError_15 : decode cX9_tiltError 15 = Except.ok (Instr.aload_n 0, 1) := by decide +kernel
theorem dX9_tiltError_16 : decode cX9_tiltError 16 = Except.ok (Instr.getfield 68, 3) := by decide +kernel
theorem dX9_tiltError_19 : decode cX9_tiltError 19 = Except.ok (Instr.iload_n 1, 1) := by decide +kernel
theorem dX9_tiltError_20 : decode cX9_tiltError 20 = Except.ok (Instr.aload_n 0, 1) := by decide +kernel
theorem dX9_tiltError_21 : decode cX9_tiltError 21 = Except.ok (Instr.getfield 25, 3) := by decide +kernel
theorem dX9_tiltError_24 : decode cX9_tiltError 24 = Except.ok (Instr.iload_n 1, 1) := by decide +kernel
theorem dX9_tiltError_25 : decode cX9_tiltError 25 = Except.ok (Instr.laload, 1) := by decide +kernel
theorem dX9_tiltError_26 : decode cX9_tiltError 26 = Except.ok (Instr.lastore, 1) := by decide +kernel
theorem dX9_tiltError_27 : decode cX9_tiltError 27 = Except.ok (Instr.iinc 1 1, 3) := by decide +kernel
theorem dX9_tiltError_30 : decode cX9_tiltError 30 = Except.ok (Instr.goto (-20), 3) := by decide +kernel
theorem dX9_tiltError_33 : decode cX9_tiltError 33 = Except.ok (Instr.aload_n 0, 1) := by decide +kernel
theorem dX9_tiltError_34 : decode cX9_tiltError 34 = Except.ok (Instr.aload_n 0, 1) := by decide +kernel
theorem dX9_tiltError_35 : decode cX9_tiltError 35 = Except.ok (Instr.getfield 13, 3) := by decide +kernel
theorem dX9_tiltError_38 : decode cX9_tiltError 38 = Except.ok (Instr.invokevirtual 232, 3) := by decide +kernel
theorem dX9_tiltError_41 : decode cX9_tiltError 41 = Except.ok (Instr.aload_n 0, 1) := by decide +kernel
theorem dX9_tiltError_42 : decode cX9_tiltError 42 = Except.ok (Instr.aload_n 0, 1) := by decide +kernel
theorem dX9_tiltError_43 : decode cX9_tiltError 43 = Except.ok (Instr.getfield 68, 3) := by decide +kernel
theorem dX9_tiltError_46 : decode cX9_tiltError 46 = Except.ok (Instr.aload_n 0, 1) := by decide +kernel
theorem dX9_tiltError_47 : decode cX9_tiltError 47 = Except.ok (Instr.getfield 25, 3) := by decide +kernel
theorem dX9_tiltError_50 : decode cX9_tiltError 50 = Except.ok (Instr.invokevirtual 243, 3) := by decide +kernel
theorem dX9_tiltError_53 : decode cX9_tiltError 53 = Except.ok (Instr.lconst 0, 1) := by decide +kernel
theorem dX9_tiltError_54 : decode cX9_tiltError 54 = Except.ok (Instr.lstore_n 1, 1) := by decide +kernel
theorem dX9_tiltError_55 : decode cX9_tiltError 55 = Except.ok (Instr.iconst 0, 1) := by decide +kernel
theorem dX9_tiltError_56 : decode cX9_tiltError 56 = Except.ok (Instr.istore_n 3, 1) := by decide +kernel
theorem dX9_tiltError_57 : decode cX9_tiltError 57 = Except.ok (Instr.iload_n 3, 1) := by decide +kernel
theorem dX9_tiltError_58 : decode cX9_tiltError 58 = Except.ok (Instr.iconst 3, 1) := by decide +kernel
theorem dX9_tiltError_59 : decode cX9_tiltError 59 = Except.ok (Instr.if_icmp .ge 31, 3) := by decide +kernel
theorem dX9_tiltError_62 : decode cX9_tiltError 62 = Except.ok (Instr.lload_n 1, 1) := by decide +kernel
theorem dX9_tiltError_63 : decode cX9_tiltError 63 = Except.ok (Instr.aload_n 0, 1) := by decide +kernel
theorem dX9_tiltError_64 : decode cX9_tiltError 64 = Except.ok (Instr.getfield 28, 3) := by decide +kernel
theorem dX9_tiltError_67 : decode cX9_tiltError 67 = Except.ok (Instr.iload_n 3, 1) := by decide +kernel
theorem dX9_tiltError_68 : decode cX9_tiltError 68 = Except.ok (Instr.laload, 1) := by decide +kernel
theorem dX9_tiltError_69 : decode cX9_tiltError 69 = Except.ok (Instr.bipush 28, 2) := by decide +kernel
theorem dX9_tiltError_71 : decode cX9_tiltError 71 = Except.ok (Instr.lshr, 1) := by decide +kernel
theorem dX9_tiltError_72 : decode cX9_tiltError 72 = Except.ok (Instr.aload_n 0, 1) := by decide +kernel
theorem dX9_tiltError_73 : decode cX9_tiltError 73 = Except.ok (Instr.getfield 28, 3) := by decide +kernel
theorem dX9_tiltError_76 : decode cX9_tiltError 76 = Except.ok (Instr.iload_n 3, 1) := by decide +kernel
theorem dX9_tiltError_77 : decode cX9_tiltError 77 = Except.ok (Instr.laload, 1) := by decide +kernel
theorem dX9_tiltError_78 : decode cX9_tiltError 78 = Except.ok (Instr.bipush 28, 2) := by decide +kernel
theorem dX9_tiltError_80 : decode cX9_tiltError 80 = Except.ok (Instr.lshr, 1) := by decide +kernel
theorem dX9_tiltError_81 : decode cX9_tiltError 81 = Except.ok (Instr.lmul, 1) := by decide +kernel
theorem dX9_tiltError_82 : decode cX9_tiltError 82 = Except.ok (Instr.ladd, 1) := by decide +kernel
theorem dX9_tiltError_83 : decode cX9_tiltError 83 = Except.ok (Instr.lstore_n 1, 1) := by decide +kernel
theorem dX9_tiltError_84 : decode cX9_tiltError 84 = Except.ok (Instr.iinc 3 1, 3) := by decide +kernel
theorem dX9_tiltError_87 : decode cX9_tiltError 87 = Except.ok (Instr.goto (-30), 3) := by decide +kernel
theorem dX9_tiltError_90 : decode cX9_tiltError 90 = Except.ok (Instr.lload_n 1, 1) := by decide +kernel
theorem dX9_tiltError_91 : decode cX9_tiltError 91 = Except.ok (Instr.invokestatic 142, 3) := by decide +kernel
theorem dX9_tiltError_94 : decode cX9_tiltError 94 = Except.ok (Instr.lreturn, 1) := by decide +kernel
theorem dX9_isWide_0 : decode cX9_isWide 0 = Except.ok (Instr.iload_n 0, 1) := by decide +kernel
theorem dX9_isWide_1 : decode cX9_isWide 1 = Except.ok (Instr.i2l, 1) := by decide +kernel
theorem dX9_isWide_2 : decode cX9_isWide 2 = Except.ok (Instr.ldc2_w 130, 3) := by decide +kernel
theorem dX9_isWide_5 : decode cX9_isWide 5 = Except.ok (Instr.ldc2_w 113, 3) := by decide +kernel
theorem dX9_isWide_8 : decode cX9_isWide 8 = Except.ok (Instr.invokestatic 107, 3) := by decide +kernel
theorem dX9_isWide_11 : decode cX9_isWide 11 = Except.ok (Instr.ifCond .eq 42, 3) := by decide +kernel
theorem dX9_isWide_14 : decode cX9_isWide 14 = Except.ok (Instr.iload_n 1, 1) := by decide +kernel
theorem dX9_isWide_15 : decode cX9_isWide 15 = Except.ok (Instr.i2l, 1) := by decide +kernel
theorem dX9_isWide_16 : decode cX9_isWide 16 = Except.ok (Instr.ldc2_w 130, 3) := by decide +kernel
theorem dX9_isWide_19 : decode cX9_isWide 19 = Except.ok (Instr.ldc2_w 113, 3) := by decide +kernel
theorem dX9_isWide_22 : decode cX9_isWide 22 = Except.ok (Instr.invokestatic 107, 3) := by decide +kernel
theorem dX9_isWide_25 : decode cX9_isWide 25 = Except.ok (Instr.ifCond .eq 28, 3) := by decide +kernel
theorem dX9_isWide_28 : decode cX9_isWide 28 = Except.ok (Instr.iload_n 2, 1) := by decide +kernel
theorem dX9_isWide_29 : decode cX9_isWide 29 = Except.ok (Instr.i2l, 1) := by decide +kernel
theorem dX9_isWide_30 : decode cX9_isWide 30 = Except.ok (Instr.ldc2_w 130, 3) := by decide +kernel
theorem dX9_isWide_33 : decode cX9_isWide 33 = Except.ok (Instr.ldc2_w 113, 3) := by decide +kernel
theorem dX9_isWide_36 : decode cX9_isWide 36 = Except.ok (Instr.invokestatic 107, 3) := by decide +kernel
theorem dX9_isWide_39 : decode cX9_isWide 39 = Except.ok (Instr.ifCond .eq 14, 3) := by decide +kernel
theorem dX9_isWide_42 : decode cX9_isWide 42 = Except.ok (Instr.iload_n 3, 1) := by decide +kernel
theorem dX9_isWide_43 : decode cX9_isWide 43 = Except.ok (Instr.invokestatic 180, 3) := by decide +kernel
theorem dX9_isWide_46 : decode cX9_isWide 46 = Except.ok (Instr.ifCond .eq 7, 3) := by decide +kernel
theorem dX9_isWide_49 : decode cX9_isWide 49 = Except.ok (Instr.iconst 1, 1) := by decide +kernel
theorem dX9_isWide_50 : decode cX9_isWide 50 = Except.ok (Instr.goto 4, 3) := by decide +kernel
theorem dX9_isWide_53 : decode cX9_isWide 53 = Except.ok (Instr.iconst 0, 1) := by decide +kernel
theorem dX9_isWide_54 : decode cX9_isWide 54 = Except.ok (Instr.ireturn, 1) := by decide +kernel
theorem dX9_toNavigation_0 : decode cX9_toNavigation 0 = Except.ok (Instr.iload_n 1, 1) := by decide +kernel
theorem dX9_toNavigation_1 : decode cX9_toNavigation 1 = Except.ok (Instr.iload_n 2, 1) := by decide +kernel
theorem dX9_toNavigation_2 : decode cX9_toNavigation 2 = Except.ok (Instr.iload_n 3, 1) := by decide +kernel
theorem dX9_toNavigation_3 : decode cX9_toNavigation 3 = Except.ok (Instr.iload 4, 2) := by decide +kernel
theorem dX9_toNavigation_5 : decode cX9_toNavigation 5 = Except.ok (Instr.invokestatic 305, 3) := by decide +kernel
theorem dX9_toNavigation_8 : decode cX9_toNavigation 8 = Except.ok (Instr.ifCond .ne 5, 3) := by decide +kernel
theorem dX9_toNavigation_11 : decode cX9_toNavigation 11 = Except.ok (Instr.lconst 0, 1) := by decide +kernel
theorem dX9_toNavigation_12 : decode cX9_toNavigation 12 = Except.ok (Instr.lreturn, 1) := by decide +kernel
theorem dX9_toNavigation_13 : decode cX9_toNavigation 13 = Except.ok (Instr.aload_n 0, 1) := by decide +kernel
theorem dX9_toNavigation_14 : decode cX9_toNavigation 14 = Except.ok (Instr.aload_n 0, 1) := by decide +kernel
theorem dX9_toNavigation_15 : decode cX9_toNavigation 15 = Except.ok (Instr.getfield 13, 3) := by decide +kernel
theorem dX9_toNavigation_18 : decode cX9_toNavigation 18 = Except.ok (Instr.invokevirtual 115, 3) := by decide +kernel
theorem dX9_toNavigation_21 : decode cX9_toNavigation 21 = Except.ok (Instr.aload_n 0, 1) := by decide +kernel
theorem dX9_toNavigation_22 : decode cX9_toNavigation 22 = Except.ok (Instr.getfield 22, 3) := by decide +kernel
theorem dX9_toNavigation_25 : decode cX9_toNavigation 25 = Except.ok (Instr.iconst 3, 1) := by decide +kernel
theorem dX9_toNavigation_26 : decode cX9_toNavigation 26 = Except.ok (Instr.iload 4, 2) := by decide +kernel
theorem dX9_toNavigation_28 : decode cX9_toNavigation 28 = Except.ok (Instr.imul, 1) := by decide +kernel
theorem dX9_toNavigation_29 : decode cX9_toNavigation 29 = Except.ok (Instr.laload, 1) := by decide +kernel
theorem dX9_toNavigation_30 : decode cX9_toNavigation 30 = Except.ok (Instr.iload_n 1, 1) := by decide +kernel
theorem dX9_toNavigation_31 : decode cX9_toNavigation 31 = Except.ok (Instr.i2l, 1) := by decide +kernel
theorem dX9_toNavigation_32 : decode cX9_toNavigation 32 = Except.ok (Instr.lmul, 1) := by decide +kernel
theorem dX9_toNavigation_33 : decode cX9_toNavigation 33 = Except.ok (Instr.aload_n 0, 1) := by decide +kernel
theorem dX9_toNavigation_34 : decode cX9_toNavigation 34 = Except.ok (Instr.getfield 22, 3) := by decide +kernel
theorem dX9_toNavigation_37 : decode cX9_toNavigation 37 = Except.ok (Instr.iconst 3, 1) := by decide +kernel
theorem dX9_toNavigation_38 : decode cX9_toNavigation 38 = Except.ok (Instr.iload 4, 2) := by decide +kernel
theorem dX9_toNavigation_40 : decode cX9_toNavigation 40 = Except.ok (Instr.imul, 1) := by decide +kernel
theorem dX9_toNavigation_41 : decode cX9_toNavigation 41 = Except.ok (Instr.iconst 1, 1) := by decide +kernel
theorem dX9_toNavigation_42 : decode cX9_toNavigation 42 = Except.ok (Instr.iadd, 1) := by decide +kernel
theorem dX9_toNavigation_43 : decode cX9_toNavigation 43 = Except.ok (Instr.laload, 1) := by decide +kernel
theorem dX9_toNavigation_44 : decode cX9_toNavigation 44 = Except.ok (Instr.iload_n 2, 1) := by decide +kernel
theorem dX9_toNavigation_45 : decode cX9_toNavigation 45 = Except.ok (Instr.i2l, 1) := by decide +kernel
theorem dX9_toNavigation_46 : decode cX9_toNavigation 46 = Except.ok (Instr.lmul, 1) := by decide +kernel
theorem dX9_toNavigation_47 : decode cX9_toNavigation 47 = Except.ok (Instr.ladd, 1) := by decide +kernel
theorem dX9_toNavigation_48 : decode cX9_toNavigation 48 = Except.ok (Instr.aload_n 0, 1) := by decide +kernel
theorem dX9_toNavigation_49 : decode cX9_toNavigation 49 = Except.ok (Instr.getfield 22, 3) := by decide +kernel
theorem dX9_toNavigation_52 : decode cX9_toNavigation 52 = Except.ok (Instr.iconst 3, 1) := by decide +kernel
theorem dX9_toNavigation_53 : decode cX9_toNavigation 53 = Except.ok (Instr.iload 4, 2) := by decide +kernel
theorem dX9_toNavigation_55 : decode cX9_toNavigation 55 = Except.ok (Instr.imul, 1) := by decide +kernel
theorem dX9_toNavigation_56 : decode cX9_toNavigation 56 = Except.ok (Instr.iconst 2, 1) := by decide +kernel
theorem dX9_toNavigation_57 : decode cX9_toNavigation 57 = Except.ok (Instr.iadd, 1) := by decide +kernel
theorem dX9_toNavigation_58 : decode cX9_toNavigation 58 = Except.ok (Instr.laload, 1) := by decide +kernel
theorem dX9_toNavigation_59 : decode cX9_toNavigation 59 = Except.ok (Instr.iload_n 3, 1) := by decide +kernel
theorem dX9_toNavigation_60 : decode cX9_toNavigation 60 = Except.ok (Instr.i2l, 1) := by decide +kernel
theorem dX9_toNavigation_61 : decode cX9_toNavigation 61 = Except.ok (Instr.lmul, 1) := by decide +kernel
theorem dX9_toNavigation_62 : decode cX9_toNavigation 62 = Except.ok (Instr.ladd, 1) := by decide +kernel
theorem dX9_toNavigation_63 : decode cX9_toNavigation 63 = Except.ok (Instr.bipush 28, 2) := by decide +kernel
theorem dX9_toNavigation_65 : decode cX9_toNavigation 65 = Except.ok (Instr.lshr, 1) := by decide +kernel
theorem dX9_toNavigation_66 : decode cX9_toNavigation 66 = Except.ok (Instr.lreturn, 1) := by decide +kernel
theorem dX9_toBody_0 : decode cX9_toBody 0 = Except.ok (Instr.iload_n 1, 1) := by decide +kernel
theorem dX9_toBody_1 : decode cX9_toBody 1 = Except.ok (Instr.iload_n 2, 1) := by decide +kernel
theorem dX9_toBody_2 : decode cX9_toBody 2 = Except.ok (Instr.iload_n 3, 1) := by decide +kernel
theorem dX9_toBody_3 : decode cX9_toBody 3 = Except.ok (Instr.iload 4, 2) := by decide +kernel
theorem dX9_toBody_5 : decode cX9_toBody 5 = Except.ok (Instr.invokestatic 305, 3) := by decide +kernel
theorem dX9_toBody_8 : decode cX9_toBody 8 = Except.ok (Instr.ifCond .ne 5, 3) := by decide +kernel
theorem dX9_toBody_11 : decode cX9_toBody 11 = Except.ok (Instr.lconst 0, 1) := by decide +kernel
theorem dX9_toBody_12 : decode cX9_toBody 12 = Except.ok (Instr.lreturn, 1) := by decide +kernel
theorem dX9_toBody_13 : decode cX9_toBody 13 = Except.ok (Instr.aload_n 0, 1) := by decide +kernel
theorem dX9_toBody_14 : decode cX9_toBody 14 = Except.ok (Instr.aload_n 0, 1) := by decide +kernel
theorem dX9_toBody_15 : decode cX9_toBody 15 = Except.ok (Instr.getfield 13, 3) := by decide +kernel
theorem dX9_toBody_18 : decode cX9_toBody 18 = Except.ok (Instr.iload_n 1, 1) := by decide +kernel
theorem dX9_toBody_19 : decode cX9_toBody 19 = Except.ok (Instr.i2l, 1) := by decide +kernel
theorem dX9_toBody_20 : decode cX9_toBody 20 = Except.ok (Instr.iload_n 2, 1) := by decide +kernel
theorem dX9_toBody_21 : decode cX9_toBody 21 = Except.ok (Instr.i2l, 1) := by decide +kernel
theorem dX9_toBody_22 : decode cX9_toBody 22 = Except.ok (Instr.iload_n 3, 1) := by decide +kernel
theorem dX9_toBody_23 : decode cX9_toBody 23 = Except.ok (Instr.i2l, 1) := by decide +kernel
theorem dX9_toBody_24 : decode cX9_toBody 24 = Except.ok (Instr.invokevirtual 126, 3) := by decide +kernel
theorem dX9_toBody_27 : decode cX9_toBody 27 = Except.ok (Instr.aload_n 0, 1) := by decide +kernel
theorem dX9_toBody_28 : decode cX9_toBody 28 = Except.ok (Instr.getfield 25, 3) := by decide +kernel
theorem dX9_toBody_31 : decode cX9_toBody 31 = Except.ok (Instr.iload 4, 2) := by decide +kernel
theorem dX9_toBody_33 : decode cX9_toBody 33 = Except.ok (Instr.laload, 1) := by decide +kernel
theorem dX9_toBody_34 : decode cX9_toBody 34 = Except.ok (Instr.lreturn, 1) := by decide +kernel
theorem dX9_visitedBins_0 : decode cX9_visitedBins 0 = Except.ok (Instr.iconst 0, 1) := by decide +kernel
theorem dX9_visitedBins_1 : decode cX9_visitedBins 1 = Except.ok (Instr.istore_n 1, 1) := by decide +kernel
theorem dX9_visitedBins_2 : decode cX9_visitedBins 2 = Except.ok (Instr.iconst 0, 1) := by decide +kernel
theorem dX9_visitedBins_3 : decode cX9_visitedBins 3 = Except.ok (Instr.istore_n 2, 1) := by decide +kernel
theorem dX9_visitedBins_4 : decode cX9_visitedBins 4 = Except.ok (Instr.iload_n 2, 1) := by decide +kernel
theorem dX9_visitedBins_5 : decode cX9_visitedBins 5 = Except.ok (Instr.bipush 13, 2) := by decide +kernel
theorem dX9_visitedBins_7 : decode cX9_visitedBins 7 = Except.ok (Instr.if_icmp .ge 26, 3) := by decide +kernel
theorem dX9_visitedBins_10 : decode cX9_visitedBins 10 = Except.ok (Instr.iload_n 1, 1) := by decide +kernel
theorem dX9_visitedBins_11 : decode cX9_visitedBins 11 = Except.ok (Instr.aload_n 0, 1) := by decide +kernel
theorem dX9_visitedBins_12 : decode cX9_visitedBins 12 = Except.ok (Instr.getfield 90, 3) := by decide +kernel
theorem dX9_visitedBins_15 : decode cX9_visitedBins 15 = Except.ok (Instr.iload_n 2, 1) := by decide +kernel
theorem dX9_visitedBins_16 : decode cX9_visitedBins 16 = Except.ok (Instr.baload, 1) := by decide +kernel
theorem dX9_visitedBins_17 : decode cX9_visitedBins 17 = Except.ok (Instr.ifCond .eq 7, 3) := by decide +kernel
theorem dX9_visitedBins_20 : decode cX9_visitedBins 20 = Except.ok (Instr.iconst 1, 1) := by decide +kernel
theorem dX9_visitedBins_21 : decode cX9_visitedBins 21 = Except.ok (Instr.goto 4, 3) := by decide +kernel
theorem dX9_visitedBins_24 : decode cX9_visitedBins 24 = Except.ok (Instr.iconst 0, 1) := by decide +kernel
theorem dX9_visitedBins_25 : decode cX9_visitedBins 25 = Except.ok (Instr.iadd, 1) := by decide +kernel
theorem dX9_visitedBins_26 : decode cX9_visitedBins 26 = Except.ok (Instr.istore_n 1, 1) := by decide +kernel
theorem dX9_visitedBins_27 : decode cX9_visitedBins 27 = Except.ok (Instr.iinc 2 1, 3) := by decide +kernel
theorem dX9_visitedBins_30 : decode cX9_visitedBins 30 = Except.ok (Instr.goto (-26), 3) := by decide +kernel
theorem dX9_visitedBins_33 : decode cX9_visitedBins 33 = Except.ok (Instr.iload_n 1, 1) := by decide +kernel
theorem dX9_visitedBins_34 : decode cX9_visitedBins 34 = Except.ok (Instr.ireturn, 1) := by decide +kernel
theorem dX9_placeOf_0 : decode cX9_placeOf 0 = Except.ok (Instr.iconst 0, 1) := by decide +kernel
theorem dX9_placeOf_1 : decode cX9_placeOf 1 = Except.ok (Instr.istore_n 2, 1) := by decide +kernel
theorem dX9_placeOf_2 : decode cX9_placeOf 2 = Except.ok (Instr.iload_n 2, 1) := by decide +kernel
theorem dX9_placeOf_3 : decode cX9_placeOf 3 = Except.ok (Instr.aload_n 0, 1) := by decide +kernel
theorem dX9_placeOf_4 : decode cX9_placeOf 4 = Except.ok (Instr.getfield 177, 3) := by decide +kernel
theorem dX9_placeOf_7 : decode cX9_placeOf 7 = Except.ok (Instr.if_icmp .ge 21, 3) := by decide +kernel
theorem dX9_placeOf_10 : decode cX9_placeOf 10 = Except.ok (Instr.aload_n 0, 1) := by decide +kernel
theorem dX9_placeOf_11 : decode cX9_placeOf 11 = Except.ok (Instr.getfield 93, 3) := by decide +kernel
theorem dX9_placeOf_14 : decode cX9_placeOf 14 = Except.ok (Instr.iload_n 2, 1) := by decide +kernel
theorem dX9_placeOf_15 : decode cX9_placeOf 15 = Except.ok (Instr.iaload, 1) := by decide +kernel
theorem dX9_placeOf_16 : decode cX9_placeOf 16 = Except.ok (Instr.iload_n 1, 1) := by decide +kernel
theorem dX9_placeOf_17 : decode cX9_placeOf 17 = Except.ok (Instr.if_icmp .ne 5, 3) := by decide +kernel
theorem dX9_placeOf_20 : decode cX9_placeOf 20 = Except.ok (Instr.iload_n 2, 1) := by decide +kernel
theorem dX9_placeOf_21 : decode cX9_placeOf 21 = Except.ok (Instr.ireturn, 1) := by decide +kernel
theorem dX9_placeOf_22 : decode cX9_placeOf 22 = Except.ok (Instr.iinc 2 1, 3) := by decide +kernel
theorem dX9_placeOf_25 : decode cX9_placeOf 25 = Except.ok (Instr.goto (-23), 3) := by decide +kernel
theorem dX9_placeOf_28 : decode cX9_placeOf 28 = Except.ok (Instr.iconst (-1), 1) := by decide +kernel
theorem dX9_placeOf_29 : decode cX9_placeOf 29 = Except.ok (Instr.ireturn, 1) := by decide +kernel
theorem dX9_store_0 : decode cX9_store 0 = Except.ok (Instr.iload_n 1, 1) := by decide +kernel
theorem dX9_store_1 : decode cX9_store 1 = Except.ok (Instr.i2l, 1) := by decide +kernel
theorem dX9_store_2 : decode cX9_store 2 = Except.ok (Instr.lconst 0, 1) := by decide +kernel
theorem dX9_store_3 : decode cX9_store 3 = Except.ok (Instr.ldc2_w 309, 3) := by decide +kernel
theorem dX9_store_6 : decode cX9_store 6 = Except.ok (Instr.invokestatic 107, 3) := by decide +kernel
theorem dX9_store_9 : decode cX9_store 9 = Except.ok (Instr.ifCond .ne 6, 3) := by decide +kernel
theorem dX9_store_12 : decode cX9_store 12 = Except.ok (Instr.bipush (-2), 2) := by decide +kernel
theorem dX9_store_14 : decode cX9_store 14 = Except.ok (Instr.ireturn, 1) := by decide +kernel
theorem dX9_store_15 : decode cX9_store 15 = Except.ok (Instr.aload_n 0, 1) := by decide +kernel
theorem dX9_store_16 : decode cX9_store 16 = Except.ok (Instr.iload_n 1, 1) := by decide +kernel
theorem dX9_store_17 : decode cX9_store 17 = Except.ok (Instr.invokevirtual 311, 3) := by decide +kernel
theorem dX9_store_20 : decode cX9_store 20 = Except.ok (Instr.istore_n 2, 1) := by decide +kernel
theorem dX9_store_21 : decode cX9_store 21 = Except.ok (Instr.iload_n 2, 1) := by decide +kernel
theorem dX9_store_22 : decode cX9_store 22 = Except.ok (Instr.iconst (-1), 1) := by decide +kernel
theorem dX9_store_23 : decode cX9_store 23 = Except.ok (Instr.if_icmp .ne 15, 3) := by decide +kernel
theorem dX9_store_26 : decode cX9_store 26 = Except.ok (Instr.aload_n 0, 1) := by decide +kernel
theorem dX9_store_27 : decode cX9_store 27 = Except.ok (Instr.getfield 177, 3) := by decide +kernel
theorem dX9_store_30 : decode cX9_store 30 = Except.ok (Instr.bipush 30, 2) := by decide +kernel
theorem dX9_store_32 : decode cX9_store 32 = Except.ok (Instr.if_icmp .ne 6, 3) := by decide +kernel
theorem dX9_store_35 : decode cX9_store 35 = Except.ok (Instr.bipush (-3), 2) := by decide +kernel
theorem dX9_store_37 : decode cX9_store 37 = Except.ok (Instr.ireturn, 1) := by decide +kernel
theorem dX9_store_38 : decode cX9_store 38 = Except.ok (Instr.iload_n 2, 1) := by decide +kernel
theorem dX9_store_39 : decode cX9_store 39 = Except.ok (Instr.iconst (-1), 1) := by decide +kernel
theorem dX9_store_40 : decode cX9_store 40 = Except.ok (Instr.if_icmp .ne 25, 3) := by decide +kernel
theorem dX9_store_43 : decode cX9_store 43 = Except.ok (Instr.aload_n 0, 1) := by decide +kernel
theorem dX9_store_44 : decode cX9_store 44 = Except.ok (Instr.getfield 177, 3) := by decide +kernel
theorem dX9_store_47 : decode cX9_store 47 = Except.ok (Instr.istore_n 2, 1) := by decide +kernel
theorem dX9_store_48 : decode cX9_store 48 = Except.ok (Instr.aload_n 0, 1) := by decide +kernel
theorem dX9_store_49 : decode cX9_store 49 = Except.ok (Instr.getfield 93, 3) := by decide +kernel
theorem dX9_store_52 : decode cX9_store 52 = Except.ok (Instr.iload_n 2, 1) := by decide +kernel
theorem dX9_store_53 : decode cX9_store 53 = Except.ok (Instr.iload_n 1, 1) := by decide +kernel
theorem dX9_store_54 : decode cX9_store 54 = Except.ok (Instr.iastore, 1) := by decide +kernel
theorem dX9_store_55 : decode cX9_store 55 = Except.ok (Instr.aload_n 0, 1) := by decide +kernel
theorem dX9_store_56 : decode cX9_store 56 = Except.ok (Instr.dup, 1) := by decide +kernel
theorem dX9_store_57 : decode cX9_store 57 = Except.ok (Instr.getfield 177, 3) := by decide +kernel
theorem dX9_store_60 : decode cX9_store 60 = Except.ok (Instr.iconst 1, 1) := by decide +kernel
theorem dX9_store_61 : decode cX9_store 61 = Except.ok (Instr.iadd, 1) := by decide +kernel
theorem dX9_store_62 : decode cX9_store 62 = Except.ok (Instr.putfield 177, 3) := by decide +kernel
theorem dX9_store_65 : decode cX9_store 65 = Except.ok (Instr.iconst 0, 1) := by decide +kernel
theorem dX9_store_66 : decode cX9_store 66 = Except.ok (Instr.istore_n 3, 1) := by decide +kernel
theorem dX9_store_67 : decode cX9_store 67 = Except.ok (Instr.iload_n 3, 1) := by decide +kernel
theorem dX9_store_68 : decode cX9_store 68 = Except.ok (Instr.iconst 4, 1) := by decide +kernel
theorem dX9_store_69 : decode cX9_store 69 = Except.ok (Instr.if_icmp .ge 25, 3) := by decide +kernel
theorem dX9_store_72 : decode cX9_store 72 = Except.ok (Instr.aload_n 0, 1) := by decide +kernel
theorem dX9_store_73 : decode cX9_store 73 = Except.ok (Instr.getfield 96, 3) := by decide +kernel
theorem dX9_store_76 : decode cX9_store 76 = Except.ok (Instr.iconst 4, 1) := by decide +kernel
theorem dX9_store_77 : decode cX9_store 77 = Except.ok (Instr.iload_n 2, 1) := by decide +kernel
theorem dX9_store_78 : decode cX9_store 78 = Except.ok (Instr.imul, 1) := by decide +kernel
theorem dX9_store_79 : decode cX9_store 79 = Except.ok (Instr.iload_n 3, 1) := by decide +kernel
theorem dX9_store_80 : decode cX9_store 80 = Except.ok (Instr.iadd, 1) := by decide +kernel
theorem dX9_store_81 : decode cX9_store 81 = Except.ok (Instr.aload_n 0, 1) := by decide +kernel
theorem dX9_store_82 : decode cX9_store 82 = Except.ok (Instr.getfield 13, 3) := by decide +kernel
theorem dX9_store_85 : decode cX9_store 85 = Except.ok (Instr.iload_n 3, 1) := by decide +kernel
theorem dX9_store_86 : decode cX9_store 86 = Except.ok (Instr.laload, 1) := by decide +kernel
theorem dX9_store_87 : decode cX9_store 87 = Except.ok (Instr.lastore, 1) := by decide +kernel
theorem dX9_store_88 : decode cX9_store 88 = Except.ok (Instr.iinc 3 1, 3) := by decide +kernel
theorem dX9_store_91 : decode cX9_store 91 = Except.ok (Instr.goto (-24), 3) := by decide +kernel
theorem dX9_store_94 : decode cX9_store 94 = Except.ok (Instr.aload_n 0, 1) := by decide +kernel
theorem dX9_store_95 : decode cX9_store 95 = Except.ok (Instr.getfield 177, 3) := by decide +kernel
theorem dX9_store_98 : decode cX9_store 98 = Except.ok (Instr.ireturn, 1) := by decide +kernel
theorem dX9_recall_0 : decode cX9_recall 0 = Except.ok (Instr.aload_n 0, 1) := by decide +kernel
theorem dX9_recall_1 : decode cX9_recall 1 = Except.ok (Instr.iload_n 1, 1) := by decide +kernel
theorem dX9_recall_2 : decode cX9_recall 2 = Except.ok (Instr.invokevirtual 311, 3) := by decide +kernel
theorem dX9_recall_5 : decode cX9_recall 5 = Except.ok (Instr.istore_n 2, 1) := by decide +kernel
theorem dX9_recall_6 : decode cX9_recall 6 = Except.ok (Instr.iload_n 2, 1) := by decide +kernel
theorem dX9_recall_7 : decode cX9_recall 7 = Except.ok (Instr.iconst (-1), 1) := by decide +kernel
theorem dX9_recall_8 : decode cX9_recall 8 = Except.ok (Instr.if_icmp .ne 5, 3) := by decide +kernel
theorem dX9_recall_11 : decode cX9_recall 11 = Except.ok (Instr.iconst (-1), 1) := by decide +kernel
theorem dX9_recall_12 : decode cX9_recall 12 = Except.ok (Instr.ireturn, 1) := by decide +kernel
theorem dX9_recall_13 : decode cX9_recall 13 = Except.ok (Instr.iconst 0, 1) := by decide +kernel
theorem dX9_recall_14 : decode cX9_recall 14 = Except.ok (Instr.istore_n 3, 1) := by decide +kernel
theorem dX9_recall_15 : decode cX9_recall 15 = Except.ok (Instr.iload_n 3, 1) := by decide +kernel
theorem dX9_recall_16 : decode cX9_recall 16 = Except.ok (Instr.iconst 4, 1) := by decide +kernel
theorem dX9_recall_17 : decode cX9_recall 17 = Except.ok (Instr.if_icmp .ge 25, 3) := by decide +kernel
theorem dX9_recall_20 : decode cX9_recall 20 = Except.ok (Instr.aload_n 0, 1) := by decide +kernel
theorem dX9_recall_21 : decode cX9_recall 21 = Except.ok (Instr.getfield 13, 3) := by decide +kernel
theorem dX9_recall_24 : decode cX9_recall 24 = Except.ok (Instr.iload_n 3, 1) := by decide +kernel
theorem dX9_recall_25 : decode cX9_recall 25 = Except.ok (Instr.aload_n 0, 1) := by decide +kernel
theorem dX9_recall_26 : decode cX9_recall 26 = Except.ok (Instr.getfield 96, 3) := by decide +kernel
theorem dX9_recall_29 : decode cX9_recall 29 = Except.ok (Instr.iconst 4, 1) := by decide +kernel
theorem dX9_recall_30 : decode cX9_recall 30 = Except.ok (Instr.iload_n 2, 1) := by decide +kernel
theorem dX9_recall_31 : decode cX9_recall 31 = Except.ok (Instr.imul, 1) := by decide +kernel
theorem dX9_recall_32 : decode cX9_recall 32 = Except.ok (Instr.iload_n 3, 1) := by decide +kernel
theorem dX9_recall_33 : decode cX9_recall 33 = Except.ok (Instr.iadd, 1) := by decide +kernel
theorem dX9_recall_34 : decode cX9_recall 34 = Except.ok (Instr.laload, 1) := by decide +kernel
theorem dX9_recall_35 : decode cX9_recall 35 = Except.ok (Instr.lastore, 1) := by decide +kernel
theorem dX9_recall_36 : decode cX9_recall 36 = Except.ok (Instr.iinc 3 1, 3) := by decide +kernel
theorem dX9_recall_39 : decode cX9_recall 39 = Except.ok (Instr.goto (-24), 3) := by decide +kernel
theorem dX9_recall_42 : decode cX9_recall 42 = Except.ok (Instr.iconst 0, 1) := by decide +kernel
theorem dX9_recall_43 : decode cX9_recall 43 = Except.ok (Instr.ireturn, 1) := by decide +kernel
theorem dX9_forget_0 : decode cX9_forget 0 = Except.ok (Instr.aload_n 0, 1) := by decide +kernel
theorem dX9_forget_1 : decode cX9_forget 1 = Except.ok (Instr.iload_n 1, 1) := by decide +kernel
theorem dX9_forget_2 : decode cX9_forget 2 = Except.ok (Instr.invokevirtual 311, 3) := by decide +kernel
theorem dX9_forget_5 : decode cX9_forget 5 = Except.ok (Instr.istore_n 2, 1) := by decide +kernel
theorem dX9_forget_6 : decode cX9_forget 6 = Except.ok (Instr.iload_n 2, 1) := by decide +kernel
theorem dX9_forget_7 : decode cX9_forget 7 = Except.ok (Instr.iconst (-1), 1) := by decide +kernel
theorem dX9_forget_8 : decode cX9_forget 8 = Except.ok (Instr.if_icmp .ne 5, 3) := by decide +kernel
theorem dX9_forget_11 : decode cX9_forget 11 = Except.ok (Instr.iconst (-1), 1) := by decide +kernel
theorem dX9_forget_12 : decode cX9_forget 12 = Except.ok (Instr.ireturn, 1) := by decide +kernel
theorem dX9_forget_13 : decode cX9_forget 13 = Except.ok (Instr.aload_n 0, 1) := by decide +kernel
theorem dX9_forget_14 : decode cX9_forget 14 = Except.ok (Instr.dup, 1) := by decide +kernel
theorem dX9_forget_15 : decode cX9_forget 15 = Except.ok (Instr.getfield 177, 3) := by decide +kernel
theorem dX9_forget_18 : decode cX9_forget 18 = Except.ok (Instr.iconst 1, 1) := by decide +kernel
theorem dX9_forget_19 : decode cX9_forget 19 = Except.ok (Instr.isub, 1) := by decide +kernel
theorem dX9_forget_20 : decode cX9_forget 20 = Except.ok (Instr.putfield 177, 3) := by decide +kernel
theorem dX9_forget_23 : decode cX9_forget 23 = Except.ok (Instr.iload_n 2, 1) := by decide +kernel
theorem dX9_forget_24 : decode cX9_forget 24 = Except.ok (Instr.istore_n 3, 1) := by decide +kernel
theorem dX9_forget_25 : decode cX9_forget 25 = Except.ok (Instr.iload_n 3, 1) := by decide +kernel
theorem dX9_forget_26 : decode cX9_forget 26 = Except.ok (Instr.aload_n 0, 1) := by decide +kernel
theorem dX9_forget_27 : decode cX9_forget 27 = Except.ok (Instr.getfield 177, 3) := by decide +kernel
theorem dX9_forget_30 : decode cX9_forget 30 = Except.ok (Instr.if_icmp .ge 23, 3) := by decide +kernel
theorem dX9_forget_33 : decode cX9_forget 33 = Except.ok (Instr.aload_n 0, 1) := by decide +kernel
theorem dX9_forget_34 : decode cX9_forget 34 = Except.ok (Instr.getfield 93, 3) := by decide +kernel
theorem dX9_forget_37 : decode cX9_forget 37 = Except.ok (Instr.iload_n 3, 1) := by decide +kernel
theorem dX9_forget_38 : decode cX9_forget 38 = Except.ok (Instr.aload_n 0, 1) := by decide +kernel
theorem dX9_forget_39 : decode cX9_forget 39 = Except.ok (Instr.getfield 93, 3) := by decide +kernel
theorem dX9_forget_42 : decode cX9_forget 42 = Except.ok (Instr.iload_n 3, 1) := by decide +kernel
theorem dX9_forget_43 : decode cX9_forget 43 = Except.ok (Instr.iconst 1, 1) := by decide +kernel
theorem dX9_forget_44 : decode cX9_forget 44 = Except.ok (Instr.iadd, 1) := by decide +kernel
theorem dX9_forget_45 : decode cX9_forget 45 = Except.ok (Instr.iaload, 1) := by decide +kernel
theorem dX9_forget_46 : decode cX9_forget 46 = Except.ok (Instr.iastore, 1) := by decide +kernel
theorem dX9_forget_47 : decode cX9_forget 47 = Except.ok (Instr.iinc 3 1, 3) := by decide +kernel
theorem dX9_forget_50 : decode cX9_forget 50 = Except.ok (Instr.goto (-25), 3) := by decide +kernel
theorem dX9_forget_53 : decode cX9_forget 53 = Except.ok (Instr.iconst 4, 1) := by decide +kernel
theorem dX9_forget_54 : decode cX9_forget 54 = Except.ok (Instr.iload_n 2, 1) := by decide +kernel
theorem dX9_forget_55 : decode cX9_forget 55 = Except.ok (Instr.imul, 1) := by decide +kernel
theorem dX9_forget_56 : decode cX9_forget 56 = Except.ok (Instr.istore_n 3, 1) := by decide +kernel
theorem dX9_forget_57 : decode cX9_forget 57 = Except.ok (Instr.iload_n 3, 1) := by decide +kernel
theorem dX9_forget_58 : decode cX9_forget 58 = Except.ok (Instr.iconst 4, 1) := by decide +kernel
theorem dX9_forget_59 : decode cX9_forget 59 = Except.ok (Instr.aload_n 0, 1) := by decide +kernel
theorem dX9_forget_60 : decode cX9_forget 60 = Except.ok (Instr.getfield 177, 3) := by decide +kernel
theorem dX9_forget_63 : decode cX9_forget 63 = Except.ok (Instr.imul, 1) := by decide +kernel
theorem dX9_forget_64 : decode cX9_forget 64 = Except.ok (Instr.if_icmp .ge 23, 3) := by decide +kernel
theorem dX9_forget_67 : decode cX9_forget 67 = Except.ok (Instr.aload_n 0, 1) := by decide +kernel
theorem dX9_forget_68 : decode cX9_forget 68 = Except.ok (Instr.getfield 96, 3) := by decide +kernel
theorem dX9_forget_71 : decode cX9_forget 71 = Except.ok (Instr.iload_n 3, 1) := by decide +kernel
theorem dX9_forget_72 : decode cX9_forget 72 = Except.ok (Instr.aload_n 0, 1) := by decide +kernel
theorem dX9_forget_73 : decode cX9_forget 73 = Except.ok (Instr.getfield 96, 3) := by decide +kernel
theorem dX9_forget_76 : decode cX9_forget 76 = Except.ok (Instr.iload_n 3, 1) := by decide +kernel
theorem dX9_forget_77 : decode cX9_forget 77 = Except.ok (Instr.iconst 4, 1) := by decide +kernel
theorem dX9_forget_78 : decode cX9_forget 78 = Except.ok (Instr.iadd, 1) := by decide +kernel
theorem dX9_forget_79 : decode cX9_forget 79 = Except.ok (Instr.laload, 1) := by decide +kernel
theorem dX9_forget_80 : decode cX9_forget 80 = Except.ok (Instr.lastore, 1) := by decide +kernel
theorem dX9_forget_81 : decode cX9_forget 81 = Except.ok (Instr.iinc 3 1, 3) := by decide +kernel
theorem dX9_forget_84 : decode cX9_forget 84 = Except.ok (Instr.goto (-27), 3) := by decide +kernel
theorem dX9_forget_87 : decode cX9_forget 87 = Except.ok (Instr.aload_n 0, 1) := by decide +kernel
theorem dX9_forget_88 : decode cX9_forget 88 = Except.ok (Instr.getfield 177, 3) := by decide +kernel
theorem dX9_forget_91 : decode cX9_forget 91 = Except.ok (Instr.ireturn, 1) := by decide +kernel
theorem dX9_angleTo_0 : decode cX9_angleTo 0 = Except.ok (Instr.aload_n 0, 1) := by decide +kernel
theorem dX9_angleTo_1 : decode cX9_angleTo 1 = Except.ok (Instr.iload_n 1, 1) := by decide +kernel
theorem dX9_angleTo_2 : decode cX9_angleTo 2 = Except.ok (Instr.invokevirtual 311, 3) := by decide +kernel
theorem dX9_angleTo_5 : decode cX9_angleTo 5 = Except.ok (Instr.istore_n 2, 1) := by decide +kernel
theorem dX9_angleTo_6 : decode cX9_angleTo 6 = Except.ok (Instr.iload_n 2, 1) := by decide +kernel
theorem dX9_angleTo_7 : decode cX9_angleTo 7 = Except.ok (Instr.iconst (-1), 1) := by decide +kernel
theorem dX9_angleTo_8 : decode cX9_angleTo 8 = Except.ok (Instr.if_icmp .ne 7, 3) := by decide +kernel
theorem dX9_angleTo_11 : decode cX9_angleTo 11 = Except.ok (Instr.ldc2_w 314, 3) := by decide +kernel
theorem dX9_angleTo_14 : decode cX9_angleTo 14 = Except.ok (Instr.lreturn, 1) := by decide +kernel
theorem dX9_angleTo_15 : decode cX9_angleTo 15 = Except.ok (Instr.iconst 0, 1) := by decide +kernel
theorem dX9_angleTo_16 : decode cX9_angleTo 16 = Except.ok (Instr.istore_n 3, 1) := by decide +kernel
theorem dX9_angleTo_17 : decode cX9_angleTo 17 = Except.ok (Instr.iload_n 3, 1) := by decide +kernel
theorem dX9_angleTo_18 : decode cX9_angleTo 18 = Except.ok (Instr.iconst 4, 1) := by decide +kernel
theorem dX9_angleTo_19 : decode cX9_angleTo 19 = Except.ok (Instr.if_icmp .ge 25, 3) := by decide +kernel
theorem dX9_angleTo_22 : decode cX9_angleTo 22 = Except.ok (Instr.aload_n 0, 1) := by decide +kernel
theorem dX9_angleTo_23 : decode cX9_angleTo 23 = Except.ok (Instr.getfield 99, 3) := by decide +kernel
theorem dX9_angleTo_26 : decode cX9_angleTo 26 = Except.ok (Instr.iload_n 3, 1) := by decide +kernel
theorem dX9_angleTo_27 : decode cX9_angleTo 27 = Except.ok (Instr.aload_n 0, 1) := by decide +kernel
theorem dX9_angleTo_28 : decode cX9_angleTo 28 = Except.ok (Instr.getfield 96, 3) := by decide +kernel
theorem dX9_angleTo_31 : decode cX9_angleTo 31 = Except.ok (Instr.iconst 4, 1) := by decide +kernel
theorem dX9_angleTo_32 : decode cX9_angleTo 32 = Except.ok (Instr.iload_n 2, 1) := by decide +kernel
theorem dX9_angleTo_33 : decode cX9_angleTo 33 = Except.ok (Instr.imul, 1) := by decide +kernel
theorem dX9_angleTo_34 : decode cX9_angleTo 34 = Except.ok (Instr.iload_n 3, 1) := by decide +kernel
theorem dX9_angleTo_35 : decode cX9_angleTo 35 = Except.ok (Instr.iadd, 1) := by decide +kernel
theorem dX9_angleTo_36 : decode cX9_angleTo 36 = Except.ok (Instr.laload, 1) := by decide +kernel
theorem dX9_angleTo_37 : decode cX9_angleTo 37 = Except.ok (Instr.lastore, 1) := by decide +kernel
theorem dX9_angleTo_38 : decode cX9_angleTo 38 = Except.ok (Instr.iinc 3 1, 3) := by decide +kernel
theorem dX9_angleTo_41 : decode cX9_angleTo 41 = Except.ok (Instr.goto (-24), 3) := by decide +kernel
theorem dX9_angleTo_44 : decode cX9_angleTo 44 = Except.ok (Instr.aload_n 0, 1) := by decide +kernel
theorem dX9_angleTo_45 : decode cX9_angleTo 45 = Except.ok (Instr.aload_n 0, 1) := by decide +kernel
theorem dX9_angleTo_46 : decode cX9_angleTo 46 = Except.ok (Instr.getfield 99, 3) := by decide +kernel
theorem dX9_angleTo_49 : decode cX9_angleTo 49 = Except.ok (Instr.aload_n 0, 1) := by decide +kernel
theorem dX9_angleTo_50 : decode cX9_angleTo 50 = Except.ok (Instr.getfield 13, 3) := by decide +kernel
theorem dX9_angleTo_53 : decode cX9_angleTo 53 = Except.ok (Instr.invokevirtual 275, 3) := by decide +kernel
theorem dX9_angleTo_56 : decode cX9_angleTo 56 = Except.ok (Instr.lreturn, 1) := by decide +kernel
theorem dX9_storedNumber_0 : decode cX9_storedNumber 0 = Except.ok (Instr.iload_n 1, 1) := by decide +kernel
theorem dX9_storedNumber_1 : decode cX9_storedNumber 1 = Except.ok (Instr.i2l, 1) := by decide +kernel
theorem dX9_storedNumber_2 : decode cX9_storedNumber 2 = Except.ok (Instr.lconst 0, 1) := by decide +kernel
theorem dX9_storedNumber_3 : decode cX9_storedNumber 3 = Except.ok (Instr.aload_n 0, 1) := by decide +kernel
theorem dX9_storedNumber_4 : decode cX9_storedNumber 4 = Except.ok (Instr.getfield 177, 3) := by decide +kernel
theorem dX9_storedNumber_7 : decode cX9_storedNumber 7 = Except.ok (Instr.iconst 1, 1) := by decide +kernel
theorem dX9_storedNumber_8 : decode cX9_storedNumber 8 = Except.ok (Instr.isub, 1) := by decide +kernel
theorem dX9_storedNumber_9 : decode cX9_storedNumber 9 = Except.ok (Instr.i2l, 1) := by decide +kernel
theorem dX9_storedNumber_10 : decode cX9_storedNumber 10 = Except.ok (Instr.invokestatic 107, 3) := by decide +kernel
theorem dX9_storedNumber_13 : decode cX9_storedNumber 13 = Except.ok (Instr.ifCond .eq 12, 3) := by decide +kernel
theorem dX9_storedNumber_16 : decode cX9_storedNumber 16 = Except.ok (Instr.aload_n 0, 1) := by decide +kernel
theorem dX9_storedNumber_17 : decode cX9_storedNumber 17 = Except.ok (Instr.getfield 93, 3) := by decide +kernel
theorem dX9_storedNumber_20 : decode cX9_storedNumber 20 = Except.ok (Instr.iload_n 1, 1) := by decide +kernel
theorem dX9_storedNumber_21 : decode cX9_storedNumber 21 = Except.ok (Instr.iaload, 1) := by decide +kernel
theorem dX9_storedNumber_22 : decode cX9_storedNumber 22 = Except.ok (Instr.goto 4, 3) := by decide +kernel
theorem dX9_storedNumber_25 : decode cX9_storedNumber 25 = Except.ok (Instr.iconst (-1), 1) := by decide +kernel
theorem dX9_storedNumber_26 : decode cX9_storedNumber 26 = Except.ok (Instr.ireturn, 1) := by decide +kernel
theorem dX9_reset_0 : decode cX9_reset 0 = Except.ok (Instr.aload_n 0, 1) := by decide +kernel
theorem dX9_reset_1 : decode cX9_reset 1 = Except.ok (Instr.getfield 153, 3) := by decide +kernel
theorem dX9_reset_4 : decode cX9_reset 4 = Except.ok (Instr.istore_n 1, 1) := by decide +kernel
theorem dX9_reset_5 : decode cX9_reset 5 = Except.ok (Instr.aload_n 0, 1) := by decide +kernel
theorem dX9_reset_6 : decode cX9_reset 6 = Except.ok (Instr.invokevirtual 102, 3) := by decide +kernel
theorem dX9_reset_9 : decode cX9_reset 9 = Except.ok (Instr.iload_n 1, 1) := by decide +kernel
theorem dX9_reset_10 : decode cX9_reset 10 = Except.ok (Instr.ireturn, 1) := by decide +kernel
