/-! ===== methods: 11.jdk ===== -/
theorem dJ7_fill_53178_0 : decode mJ7_fill_53178.2.1 0 = .ok (.iconst 0, 1) := by decide +kernel
theorem dJ7_fill_53178_1 : decode mJ7_fill_53178.2.1 1 = .ok (.istore_n 2, 1) := by decide +kernel
theorem dJ7_fill_53178_2 : decode mJ7_fill_53178.2.1 2 = .ok (.aload_n 0, 1) := by decide +kernel
theorem dJ7_fill_53178_3 : decode mJ7_fill_53178.2.1 3 = .ok (.arraylength, 1) := by decide +kernel
theorem dJ7_fill_53178_4 : decode mJ7_fill_53178.2.1 4 = .ok (.istore_n 3, 1) := by decide +kernel
theorem dJ7_fill_53178_5 : decode mJ7_fill_53178.2.1 5 = .ok (.iload_n 2, 1) := by decide +kernel
theorem dJ7_fill_53178_6 : decode mJ7_fill_53178.2.1 6 = .ok (.iload_n 3, 1) := by decide +kernel
theorem dJ7_fill_53178_7 : decode mJ7_fill_53178.2.1 7 = .ok (.if_icmp .ge 13, 3) := by decide +kernel
theorem dJ7_fill_53178_10 : decode mJ7_fill_53178.2.1 10 = .ok (.aload_n 0, 1) := by decide +kernel
theorem dJ7_fill_53178_11 : decode mJ7_fill_53178.2.1 11 = .ok (.iload_n 2, 1) := by decide +kernel
theorem dJ7_fill_53178_12 : decode mJ7_fill_53178.2.1 12 = .ok (.iload_n 1, 1) := by decide +kernel
theorem dJ7_fill_53178_13 : decode mJ7_fill_53178.2.1 13 = .ok (.iastore, 1) := by decide +kernel
theorem dJ7_fill_53178_14 : decode mJ7_fill_53178.2.1 14 = .ok (.iinc 2 1, 3) := by decide +kernel
theorem dJ7_fill_53178_17 : decode mJ7_fill_53178.2.1 17 = .ok (.goto (-12), 3) := by decide +kernel
theorem dJ7_fill_53178_20 : decode mJ7_fill_53178.2.1 20 = .ok (.return_, 1) := by decide +kernel
theorem dJ7_fill_d0a16_0 : decode mJ7_fill_d0a16.2.1 0 = .ok (.iconst 0, 1) := by decide +kernel
theorem dJ7_fill_d0a16_1 : decode mJ7_fill_d0a16.2.1 1 = .ok (.istore_n 3, 1) := by decide +kernel
theorem dJ7_fill_d0a16_2 : decode mJ7_fill_d0a16.2.1 2 = .ok (.aload_n 0, 1) := by decide +kernel
theorem dJ7_fill_d0a16_3 : decode mJ7_fill_d0a16.2.1 3 = .ok (.arraylength, 1) := by decide +kernel
theorem dJ7_fill_d0a16_4 : decode mJ7_fill_d0a16.2.1 4 = .ok (.istore 4, 2) := by decide +kernel
theorem dJ7_fill_d0a16_6 : decode mJ7_fill_d0a16.2.1 6 = .ok (.iload_n 3, 1) := by decide +kernel
theorem dJ7_fill_d0a16_7 : decode mJ7_fill_d0a16.2.1 7 = .ok (.iload 4, 2) := by decide +kernel
theorem dJ7_fill_d0a16_9 : decode mJ7_fill_d0a16.2.1 9 = .ok (.if_icmp .ge 13, 3) := by decide +kernel
theorem dJ7_fill_d0a16_12 : decode mJ7_fill_d0a16.2.1 12 = .ok (.aload_n 0, 1) := by decide +kernel
theorem dJ7_fill_d0a16_13 : decode mJ7_fill_d0a16.2.1 13 = .ok (.iload_n 3, 1) := by decide +kernel
theorem dJ7_fill_d0a16_14 : decode mJ7_fill_d0a16.2.1 14 = .ok (.lload_n 1, 1) := by decide +kernel
theorem dJ7_fill_d0a16_15 : decode mJ7_fill_d0a16.2.1 15 = .ok (.lastore, 1) := by decide +kernel
theorem dJ7_fill_d0a16_16 : decode mJ7_fill_d0a16.2.1 16 = .ok (.iinc 3 1, 3) := by decide +kernel
theorem dJ7_fill_d0a16_19 : decode mJ7_fill_d0a16.2.1 19 = .ok (.goto (-13), 3) := by decide +kernel
theorem dJ7_fill_d0a16_22 : decode mJ7_fill_d0a16.2.1 22 = .ok (.return_, 1) := by decide +kernel
theorem dJ6_bitCount_0f7a4_0 : decode mJ6_bitCount_0f7a4.2.1 0 = .ok (.iload_n 0, 1) := by decide +kernel
theorem dJ6_bitCount_0f7a4_1 : decode mJ6_bitCount_0f7a4.2.1 1 = .ok (.iload_n 0, 1) := by decide +kernel
theorem dJ6_bitCount_0f7a4_2 : decode mJ6_bitCount_0f7a4.2.1 2 = .ok (.iconst 1, 1) := by decide +kernel
theorem dJ6_bitCount_0f7a4_3 : decode mJ6_bitCount_0f7a4.2.1 3 = .ok (.iushr, 1) := by decide +kernel
theorem dJ6_bitCount_0f7a4_4 : decode mJ6_bitCount_0f7a4.2.1 4 = .ok (.ldc_w 265, 3) := by decide +kernel
theorem dJ6_bitCount_0f7a4_7 : decode mJ6_bitCount_0f7a4.2.1 7 = .ok (.iand, 1) := by decide +kernel
theorem dJ6_bitCount_0f7a4_8 : decode mJ6_bitCount_0f7a4.2.1 8 = .ok (.isub, 1) := by decide +kernel
theorem dJ6_bitCount_0f7a4_9 : decode mJ6_bitCount_0f7a4.2.1 9 = .ok (.istore_n 0, 1) := by decide +kernel
theorem dJ6_bitCount_0f7a4_10 : decode mJ6_bitCount_0f7a4.2.1 10 = .ok (.iload_n 0, 1) := by decide +kernel
theorem dJ6_bitCount_0f7a4_11 : decode mJ6_bitCount_0f7a4.2.1 11 = .ok (.ldc_w 266, 3) := by decide +kernel
theorem dJ6_bitCount_0f7a4_14 : decode mJ6_bitCount_0f7a4.2.1 14 = .ok (.iand, 1) := by decide +kernel
theorem dJ6_bitCount_0f7a4_15 : decode mJ6_bitCount_0f7a4.2.1 15 = .ok (.iload_n 0, 1) := by decide +kernel
theorem dJ6_bitCount_0f7a4_16 : decode mJ6_bitCount_0f7a4.2.1 16 = .ok (.iconst 2, 1) := by decide +kernel
theorem dJ6_bitCount_0f7a4_17 : decode mJ6_bitCount_0f7a4.2.1 17 = .ok (.iushr, 1) := by decide +kernel
theorem dJ6_bitCount_0f7a4_18 : decode mJ6_bitCount_0f7a4.2.1 18 = .ok (.ldc_w 266, 3) := by decide +kernel
theorem dJ6_bitCount_0f7a4_21 : decode mJ6_bitCount_0f7a4.2.1 21 = .ok (.iand, 1) := by decide +kernel
theorem dJ6_bitCount_0f7a4_22 : decode mJ6_bitCount_0f7a4.2.1 22 = .ok (.iadd, 1) := by decide +kernel
theorem dJ6_bitCount_0f7a4_23 : decode mJ6_bitCount_0f7a4.2.1 23 = .ok (.istore_n 0, 1) := by decide +kernel
theorem dJ6_bitCount_0f7a4_24 : decode mJ6_bitCount_0f7a4.2.1 24 = .ok (.iload_n 0, 1) := by decide +kernel
theorem dJ6_bitCount_0f7a4_25 : decode mJ6_bitCount_0f7a4.2.1 25 = .ok (.iload_n 0, 1) := by decide +kernel
theorem dJ6_bitCount_0f7a4_26 : decode mJ6_bitCount_0f7a4.2.1 26 = .ok (.iconst 4, 1) := by decide +kernel
theorem dJ6_bitCount_0f7a4_27 : decode mJ6_bitCount_0f7a4.2.1 27 = .ok (.iushr, 1) := by decide +kernel
theorem dJ6_bitCount_0f7a4_28 : decode mJ6_bitCount_0f7a4.2.1 28 = .ok (.iadd, 1) := by decide +kernel
theorem dJ6_bitCount_0f7a4_29 : decode mJ6_bitCount_0f7a4.2.1 29 = .ok (.ldc_w 267, 3) := by decide +kernel
theorem dJ6_bitCount_0f7a4_32 : decode mJ6_bitCount_0f7a4.2.1 32 = .ok (.iand, 1) := by decide +kernel
theorem dJ6_bitCount_0f7a4_33 : decode mJ6_bitCount_0f7a4.2.1 33 = .ok (.istore_n 0, 1) := by decide +kernel
theorem dJ6_bitCount_0f7a4_34 : decode mJ6_bitCount_0f7a4.2.1 34 = .ok (.iload_n 0, 1) := by decide +kernel
theorem dJ6_bitCount_0f7a4_35 : decode mJ6_bitCount_0f7a4.2.1 35 = .ok (.iload_n 0, 1) := by decide +kernel
theorem dJ6_bitCount_0f7a4_36 : decode mJ6_bitCount_0f7a4.2.1 36 = .ok (.bipush 8, 2) := by decide +kernel
theorem dJ6_bitCount_0f7a4_38 : decode mJ6_bitCount_0f7a4.2.1 38 = .ok (.iushr, 1) := by decide +kernel
theorem dJ6_bitCount_0f7a4_39 : decode mJ6_bitCount_0f7a4.2.1 39 = .ok (.iadd, 1) := by decide +kernel
theorem dJ6_bitCount_0f7a4_40 : decode mJ6_bitCount_0f7a4.2.1 40 = .ok (.istore_n 0, 1) := by decide +kernel
theorem dJ6_bitCount_0f7a4_41 : decode mJ6_bitCount_0f7a4.2.1 41 = .ok (.iload_n 0, 1) := by decide +kernel
theorem dJ6_bitCount_0f7a4_42 : decode mJ6_bitCount_0f7a4.2.1 42 = .ok (.iload_n 0, 1) := by decide +kernel
theorem dJ6_bitCount_0f7a4_43 : decode mJ6_bitCount_0f7a4.2.1 43 = .ok (.bipush 16, 2) := by decide +kernel
theorem dJ6_bitCount_0f7a4_45 : decode mJ6_bitCount_0f7a4.2.1 45 = .ok (.iushr, 1) := by decide +kernel
theorem dJ6_bitCount_0f7a4_46 : decode mJ6_bitCount_0f7a4.2.1 46 = .ok (.iadd, 1) := by decide +kernel
theorem dJ6_bitCount_0f7a4_47 : decode mJ6_bitCount_0f7a4.2.1 47 = .ok (.istore_n 0, 1) := by decide +kernel
theorem dJ6_bitCount_0f7a4_48 : decode mJ6_bitCount_0f7a4.2.1 48 = .ok (.iload_n 0, 1) := by decide +kernel
theorem dJ6_bitCount_0f7a4_49 : decode mJ6_bitCount_0f7a4.2.1 49 = .ok (.bipush 63, 2) := by decide +kernel
theorem dJ6_bitCount_0f7a4_51 : decode mJ6_bitCount_0f7a4.2.1 51 = .ok (.iand, 1) := by decide +kernel
theorem dJ6_bitCount_0f7a4_52 : decode mJ6_bitCount_0f7a4.2.1 52 = .ok (.ireturn, 1) := by decide +kernel
theorem dJ13_bitCount_95d88_0 : decode mJ13_bitCount_95d88.2.1 0 = .ok (.lload_n 0, 1) := by decide +kernel
theorem dJ13_bitCount_95d88_1 : decode mJ13_bitCount_95d88.2.1 1 = .ok (.lload_n 0, 1) := by decide +kernel
theorem dJ13_bitCount_95d88_2 : decode mJ13_bitCount_95d88.2.1 2 = .ok (.iconst 1, 1) := by decide +kernel
theorem dJ13_bitCount_95d88_3 : decode mJ13_bitCount_95d88.2.1 3 = .ok (.lushr, 1) := by decide +kernel
theorem dJ13_bitCount_95d88_4 : decode mJ13_bitCount_95d88.2.1 4 = .ok (.ldc2_w 314, 3) := by decide +kernel
theorem dJ13_bitCount_95d88_7 : decode mJ13_bitCount_95d88.2.1 7 = .ok (.land, 1) := by decide +kernel
theorem dJ13_bitCount_95d88_8 : decode mJ13_bitCount_95d88.2.1 8 = .ok (.lsub, 1) := by decide +kernel
theorem dJ13_bitCount_95d88_9 : decode mJ13_bitCount_95d88.2.1 9 = .ok (.lstore_n 0, 1) := by decide +kernel
theorem dJ13_bitCount_95d88_10 : decode mJ13_bitCount_95d88.2.1 10 = .ok (.lload_n 0, 1) := by decide +kernel
theorem dJ13_bitCount_95d88_11 : decode mJ13_bitCount_95d88.2.1 11 = .ok (.ldc2_w 316, 3) := by decide +kernel
theorem dJ13_bitCount_95d88_14 : decode mJ13_bitCount_95d88.2.1 14 = .ok (.land, 1) := by decide +kernel
theorem dJ13_bitCount_95d88_15 : decode mJ13_bitCount_95d88.2.1 15 = .ok (.lload_n 0, 1) := by decide +kernel
theorem dJ13_bitCount_95d88_16 : decode mJ13_bitCount_95d88.2.1 16 = .ok (.iconst 2, 1) := by decide +kernel
theorem dJ13_bitCount_95d88_17 : decode mJ13_bitCount_95d88.2.1 17 = .ok (.lushr, 1) := by decide +kernel
theorem dJ13_bitCount_95d88_18 : decode mJ13_bitCount_95d88.2.1 18 = .ok (.ldc2_w 316, 3) := by decide +kernel
theorem dJ13_bitCount_95d88_21 : decode mJ13_bitCount_95d88.2.1 21 = .ok (.land, 1) := by decide +kernel
theorem dJ13_bitCount_95d88_22 : decode mJ13_bitCount_95d88.2.1 22 = .ok (.ladd, 1) := by decide +kernel
theorem dJ13_bitCount_95d88_23 : decode mJ13_bitCount_95d88.2.1 23 = .ok (.lstore_n 0, 1) := by decide +kernel
theorem dJ13_bitCount_95d88_24 : decode mJ13_bitCount_95d88.2.1 24 = .ok (.lload_n 0, 1) := by decide +kernel
theorem dJ13_bitCount_95d88_25 : decode mJ13_bitCount_95d88.2.1 25 = .ok (.lload_n 0, 1) := by decide +kernel
theorem dJ13_bitCount_95d88_26 : decode mJ13_bitCount_95d88.2.1 26 = .ok (.iconst 4, 1) := by decide +kernel
theorem dJ13_bitCount_95d88_27 : decode mJ13_bitCount_95d88.2.1 27 = .ok (.lushr, 1) := by decide +kernel
theorem dJ13_bitCount_95d88_28 : decode mJ13_bitCount_95d88.2.1 28 = .ok (.ladd, 1) := by decide +kernel
theorem dJ13_bitCount_95d88_29 : decode mJ13_bitCount_95d88.2.1 29 = .ok (.ldc2_w 318, 3) := by decide +kernel
theorem dJ13_bitCount_95d88_32 : decode mJ13_bitCount_95d88.2.1 32 = .ok (.land, 1) := by decide +kernel
theorem dJ13_bitCount_95d88_33 : decode mJ13_bitCount_95d88.2.1 33 = .ok (.lstore_n 0, 1) := by decide +kernel
theorem dJ13_bitCount_95d88_34 : decode mJ13_bitCount_95d88.2.1 34 = .ok (.lload_n 0, 1) := by decide +kernel
theorem dJ13_bitCount_95d88_35 : decode mJ13_bitCount_95d88.2.1 35 = .ok (.lload_n 0, 1) := by decide +kernel
theorem dJ13_bitCount_95d88_36 : decode mJ13_bitCount_95d88.2.1 36 = .ok (.bipush 8, 2) := by decide +kernel
theorem dJ13_bitCount_95d88_38 : decode mJ13_bitCount_95d88.2.1 38 = .ok (.lushr, 1) := by decide +kernel
theorem dJ13_bitCount_95d88_39 : decode mJ13_bitCount_95d88.2.1 39 = .ok (.ladd, 1) := by decide +kernel
theorem dJ13_bitCount_95d88_40 : decode mJ13_bitCount_95d88.2.1 40 = .ok (.lstore_n 0, 1) := by decide +kernel
theorem dJ13_bitCount_95d88_41 : decode mJ13_bitCount_95d88.2.1 41 = .ok (.lload_n 0, 1) := by decide +kernel
theorem dJ13_bitCount_95d88_42 : decode mJ13_bitCount_95d88.2.1 42 = .ok (.lload_n 0, 1) := by decide +kernel
theorem dJ13_bitCount_95d88_43 : decode mJ13_bitCount_95d88.2.1 43 = .ok (.bipush 16, 2) := by decide +kernel
theorem dJ13_bitCount_95d88_45 : decode mJ13_bitCount_95d88.2.1 45 = .ok (.lushr, 1) := by decide +kernel
theorem dJ13_bitCount_95d88_46 : decode mJ13_bitCount_95d88.2.1 46 = .ok (.ladd, 1) := by decide +kernel
theorem dJ13_bitCount_95d88_47 : decode mJ13_bitCount_95d88.2.1 47 = .ok (.lstore_n 0, 1) := by decide +kernel
theorem dJ13_bitCount_95d88_48 : decode mJ13_bitCount_95d88.2.1 48 = .ok (.lload_n 0, 1) := by decide +kernel
theorem dJ13_bitCount_95d88_49 : decode mJ13_bitCount_95d88.2.1 49 = .ok (.lload_n 0, 1) := by decide +kernel
theorem dJ13_bitCount_95d88_50 : decode mJ13_bitCount_95d88.2.1 50 = .ok (.bipush 32, 2) := by decide +kernel
theorem dJ13_bitCount_95d88_52 : decode mJ13_bitCount_95d88.2.1 52 = .ok (.lushr, 1) := by decide +kernel
theorem dJ13_bitCount_95d88_53 : decode mJ13_bitCount_95d88.2.1 53 = .ok (.ladd, 1) := by decide +kernel
theorem dJ13_bitCount_95d88_54 : decode mJ13_bitCount_95d88.2.1 54 = .ok (.lstore_n 0, 1) := by decide +kernel
theorem dJ13_bitCount_95d88_55 : decode mJ13_bitCount_95d88.2.1 55 = .ok (.lload_n 0, 1) := by decide +kernel
theorem dJ13_bitCount_95d88_56 : decode mJ13_bitCount_95d88.2.1 56 = .ok (.l2i, 1) := by decide +kernel
theorem dJ13_bitCount_95d88_57 : decode mJ13_bitCount_95d88.2.1 57 = .ok (.bipush 127, 2) := by decide +kernel
theorem dJ13_bitCount_95d88_59 : decode mJ13_bitCount_95d88.2.1 59 = .ok (.iand, 1) := by decide +kernel
theorem dJ13_bitCount_95d88_60 : decode mJ13_bitCount_95d88.2.1 60 = .ok (.ireturn, 1) := by decide +kernel
theorem dJ9_abs_0f7a4_0 : decode mJ9_abs_0f7a4.2.1 0 = .ok (.iload_n 0, 1) := by decide +kernel
theorem dJ9_abs_0f7a4_1 : decode mJ9_abs_0f7a4.2.1 1 = .ok (.ifCond .ge 8, 3) := by decide +kernel
theorem dJ9_abs_0f7a4_4 : decode mJ9_abs_0f7a4.2.1 4 = .ok (.iload_n 0, 1) := by decide +kernel
theorem dJ9_abs_0f7a4_5 : decode mJ9_abs_0f7a4.2.1 5 = .ok (.ineg, 1) := by decide +kernel
theorem dJ9_abs_0f7a4_6 : decode mJ9_abs_0f7a4.2.1 6 = .ok (.goto 4, 3) := by decide +kernel
theorem dJ9_abs_0f7a4_9 : decode mJ9_abs_0f7a4.2.1 9 = .ok (.iload_n 0, 1) := by decide +kernel
theorem dJ9_abs_0f7a4_10 : decode mJ9_abs_0f7a4.2.1 10 = .ok (.ireturn, 1) := by decide +kernel
theorem dJ9_max_7cf53_0 : decode mJ9_max_7cf53.2.1 0 = .ok (.iload_n 0, 1) := by decide +kernel
theorem dJ9_max_7cf53_1 : decode mJ9_max_7cf53.2.1 1 = .ok (.iload_n 1, 1) := by decide +kernel
theorem dJ9_max_7cf53_2 : decode mJ9_max_7cf53.2.1 2 = .ok (.if_icmp .lt 7, 3) := by decide +kernel
theorem dJ9_max_7cf53_5 : decode mJ9_max_7cf53.2.1 5 = .ok (.iload_n 0, 1) := by decide +kernel
theorem dJ9_max_7cf53_6 : decode mJ9_max_7cf53.2.1 6 = .ok (.goto 4, 3) := by decide +kernel
theorem dJ9_max_7cf53_9 : decode mJ9_max_7cf53.2.1 9 = .ok (.iload_n 1, 1) := by decide +kernel
theorem dJ9_max_7cf53_10 : decode mJ9_max_7cf53.2.1 10 = .ok (.ireturn, 1) := by decide +kernel
theorem dJ9_max_f86c9_0 : decode mJ9_max_f86c9.2.1 0 = .ok (.lload_n 0, 1) := by decide +kernel
theorem dJ9_max_f86c9_1 : decode mJ9_max_f86c9.2.1 1 = .ok (.lload_n 2, 1) := by decide +kernel
theorem dJ9_max_f86c9_2 : decode mJ9_max_f86c9.2.1 2 = .ok (.lcmp, 1) := by decide +kernel
theorem dJ9_max_f86c9_3 : decode mJ9_max_f86c9.2.1 3 = .ok (.ifCond .lt 7, 3) := by decide +kernel
theorem dJ9_max_f86c9_6 : decode mJ9_max_f86c9.2.1 6 = .ok (.lload_n 0, 1) := by decide +kernel
theorem dJ9_max_f86c9_7 : decode mJ9_max_f86c9.2.1 7 = .ok (.goto 4, 3) := by decide +kernel
theorem dJ9_max_f86c9_10 : decode mJ9_max_f86c9.2.1 10 = .ok (.lload_n 2, 1) := by decide +kernel
theorem dJ9_max_f86c9_11 : decode mJ9_max_f86c9.2.1 11 = .ok (.lreturn, 1) := by decide +kernel
theorem dJ9_min_7cf53_0 : decode mJ9_min_7cf53.2.1 0 = .ok (.iload_n 0, 1) := by decide +kernel
theorem dJ9_min_7cf53_1 : decode mJ9_min_7cf53.2.1 1 = .ok (.iload_n 1, 1) := by decide +kernel
theorem dJ9_min_7cf53_2 : decode mJ9_min_7cf53.2.1 2 = .ok (.if_icmp .gt 7, 3) := by decide +kernel
theorem dJ9_min_7cf53_5 : decode mJ9_min_7cf53.2.1 5 = .ok (.iload_n 0, 1) := by decide +kernel
theorem dJ9_min_7cf53_6 : decode mJ9_min_7cf53.2.1 6 = .ok (.goto 4, 3) := by decide +kernel
theorem dJ9_min_7cf53_9 : decode mJ9_min_7cf53.2.1 9 = .ok (.iload_n 1, 1) := by decide +kernel
theorem dJ9_min_7cf53_10 : decode mJ9_min_7cf53.2.1 10 = .ok (.ireturn, 1) := by decide +kernel
theorem dJ9_min_f86c9_0 : decode mJ9_min_f86c9.2.1 0 = .ok (.lload_n 0, 1) := by decide +kernel
theorem dJ9_min_f86c9_1 : decode mJ9_min_f86c9.2.1 1 = .ok (.lload_n 2, 1) := by decide +kernel
theorem dJ9_min_f86c9_2 : decode mJ9_min_f86c9.2.1 2 = .ok (.lcmp, 1) := by decide +kernel
theorem dJ9_min_f86c9_3 : decode mJ9_min_f86c9.2.1 3 = .ok (.ifCond .gt 7, 3) := by decide +kernel
theorem dJ9_min_f86c9_6 : decode mJ9_min_f86c9.2.1 6 = .ok (.lload_n 0, 1) := by decide +kernel
theorem dJ9_min_f86c9_7 : decode mJ9_min_f86c9.2.1 7 = .ok (.goto 4, 3) := by decide +kernel
theorem dJ9_min_f86c9_10 : decode mJ9_min_f86c9.2.1 10 = .ok (.lload_n 2, 1) := by decide +kernel
theorem dJ9_min_f86c9_11 : decode mJ9_min_f86c9.2.1 11 = .ok (.lreturn, 1) := by decide +kernel
theorem dJ0_coder_7d493_0 : decode mJ0_coder_7d493.2.1 0 = .ok (.getstatic 38, 3) := by decide +kernel
theorem dJ0_coder_7d493_3 : decode mJ0_coder_7d493.2.1 3 = .ok (.ifCond .eq 10, 3) := by decide +kernel
theorem dJ0_coder_7d493_6 : decode mJ0_coder_7d493.2.1 6 = .ok (.aload_n 0, 1) := by decide +kernel
theorem dJ0_coder_7d493_7 : decode mJ0_coder_7d493.2.1 7 = .ok (.getfield 15, 3) := by decide +kernel
theorem dJ0_coder_7d493_10 : decode mJ0_coder_7d493.2.1 10 = .ok (.goto 4, 3) := by decide +kernel
theorem dJ0_coder_7d493_13 : decode mJ0_coder_7d493.2.1 13 = .ok (.iconst 1, 1) := by decide +kernel
theorem dJ0_coder_7d493_14 : decode mJ0_coder_7d493.2.1 14 = .ok (.ireturn, 1) := by decide +kernel
theorem dJ0_isLatin1_aae02_0 : decode mJ0_isLatin1_aae02.2.1 0 = .ok (.getstatic 38, 3) := by decide +kernel
theorem dJ0_isLatin1_aae02_3 : decode mJ0_isLatin1_aae02.2.1 3 = .ok (.ifCond .eq 14, 3) := by decide +kernel
theorem dJ0_isLatin1_aae02_6 : decode mJ0_isLatin1_aae02.2.1 6 = .ok (.aload_n 0, 1) := by decide +kernel
theorem dJ0_isLatin1_aae02_7 : decode mJ0_isLatin1_aae02.2.1 7 = .ok (.getfield 15, 3) := by decide +kernel
theorem dJ0_isLatin1_aae02_10 : decode mJ0_isLatin1_aae02.2.1 10 = .ok (.ifCond .ne 7, 3) := by decide +kernel
theorem dJ0_isLatin1_aae02_13 : decode mJ0_isLatin1_aae02.2.1 13 = .ok (.iconst 1, 1) := by decide +kernel
theorem dJ0_isLatin1_aae02_14 : decode mJ0_isLatin1_aae02.2.1 14 = .ok (.goto 4, 3) := by decide +kernel
theorem dJ0_isLatin1_aae02_17 : decode mJ0_isLatin1_aae02.2.1 17 = .ok (.iconst 0, 1) := by decide +kernel
theorem dJ0_isLatin1_aae02_18 : decode mJ0_isLatin1_aae02.2.1 18 = .ok (.ireturn, 1) := by decide +kernel
theorem dJ1_charAt_3b067_0 : decode mJ1_charAt_3b067.2.1 0 = .ok (.iload_n 1, 1) := by decide +kernel
theorem dJ1_charAt_3b067_1 : decode mJ1_charAt_3b067.2.1 1 = .ok (.aload_n 0, 1) := by decide +kernel
theorem dJ1_charAt_3b067_2 : decode mJ1_charAt_3b067.2.1 2 = .ok (.arraylength, 1) := by decide +kernel
theorem dJ1_charAt_3b067_3 : decode mJ1_charAt_3b067.2.1 3 = .ok (.invokestatic 9, 3) := by decide +kernel
theorem dJ1_charAt_3b067_6 : decode mJ1_charAt_3b067.2.1 6 = .ok (.aload_n 0, 1) := by decide +kernel
theorem dJ1_charAt_3b067_7 : decode mJ1_charAt_3b067.2.1 7 = .ok (.iload_n 1, 1) := by decide +kernel
theorem dJ1_charAt_3b067_8 : decode mJ1_charAt_3b067.2.1 8 = .ok (.baload, 1) := by decide +kernel
theorem dJ1_charAt_3b067_9 : decode mJ1_charAt_3b067.2.1 9 = .ok (.sipush 255, 3) := by decide +kernel
theorem dJ1_charAt_3b067_12 : decode mJ1_charAt_3b067.2.1 12 = .ok (.iand, 1) := by decide +kernel
theorem dJ1_charAt_3b067_13 : decode mJ1_charAt_3b067.2.1 13 = .ok (.i2c, 1) := by decide +kernel
theorem dJ1_charAt_3b067_14 : decode mJ1_charAt_3b067.2.1 14 = .ok (.ireturn, 1) := by decide +kernel
theorem dJ1_canEncode_9a6ad_0 : decode mJ1_canEncode_9a6ad.2.1 0 = .ok (.iload_n 0, 1) := by decide +kernel
theorem dJ1_canEncode_9a6ad_1 : decode mJ1_canEncode_9a6ad.2.1 1 = .ok (.ifCond .lt 14, 3) := by decide +kernel
theorem dJ1_canEncode_9a6ad_4 : decode mJ1_canEncode_9a6ad.2.1 4 = .ok (.iload_n 0, 1) := by decide +kernel
theorem dJ1_canEncode_9a6ad_5 : decode mJ1_canEncode_9a6ad.2.1 5 = .ok (.sipush 255, 3) := by decide +kernel
theorem dJ1_canEncode_9a6ad_8 : decode mJ1_canEncode_9a6ad.2.1 8 = .ok (.if_icmp .gt 7, 3) := by decide +kernel
theorem dJ1_canEncode_9a6ad_11 : decode mJ1_canEncode_9a6ad.2.1 11 = .ok (.iconst 1, 1) := by decide +kernel
theorem dJ1_canEncode_9a6ad_12 : decode mJ1_canEncode_9a6ad.2.1 12 = .ok (.goto 4, 3) := by decide +kernel
theorem dJ1_canEncode_9a6ad_15 : decode mJ1_canEncode_9a6ad.2.1 15 = .ok (.iconst 0, 1) := by decide +kernel
theorem dJ1_canEncode_9a6ad_16 : decode mJ1_canEncode_9a6ad.2.1 16 = .ok (.ireturn, 1) := by decide +kernel
theorem dJ1_indexOfChar_4cfef_0 : decode mJ1_indexOfChar_4cfef.2.1 0 = .ok (.iload_n 1, 1) := by decide +kernel
theorem dJ1_indexOfChar_4cfef_1 : decode mJ1_indexOfChar_4cfef.2.1 1 = .ok (.i2b, 1) := by decide +kernel
theorem dJ1_indexOfChar_4cfef_2 : decode mJ1_indexOfChar_4cfef.2.1 2 = .ok (.istore 4, 2) := by decide +kernel
theorem dJ1_indexOfChar_4cfef_4 : decode mJ1_indexOfChar_4cfef.2.1 4 = .ok (.iload_n 2, 1) := by decide +kernel
theorem dJ1_indexOfChar_4cfef_5 : decode mJ1_indexOfChar_4cfef.2.1 5 = .ok (.istore 5, 2) := by decide +kernel
theorem dJ1_indexOfChar_4cfef_7 : decode mJ1_indexOfChar_4cfef.2.1 7 = .ok (.iload 5, 2) := by decide +kernel
theorem dJ1_indexOfChar_4cfef_9 : decode mJ1_indexOfChar_4cfef.2.1 9 = .ok (.iload_n 3, 1) := by decide +kernel
theorem dJ1_indexOfChar_4cfef_10 : decode mJ1_indexOfChar_4cfef.2.1 10 = .ok (.if_icmp .ge 21, 3) := by decide +kernel
theorem dJ1_indexOfChar_4cfef_13 : decode mJ1_indexOfChar_4cfef.2.1 13 = .ok (.aload_n 0, 1) := by decide +kernel
theorem dJ1_indexOfChar_4cfef_14 : decode mJ1_indexOfChar_4cfef.2.1 14 = .ok (.iload 5, 2) := by decide +kernel
theorem dJ1_indexOfChar_4cfef_16 : decode mJ1_indexOfChar_4cfef.2.1 16 = .ok (.baload, 1) := by decide +kernel
theorem dJ1_indexOfChar_4cfef_17 : decode mJ1_indexOfChar_4cfef.2.1 17 = .ok (.iload 4, 2) := by decide +kernel
theorem dJ1_indexOfChar_4cfef_19 : decode mJ1_indexOfChar_4cfef.2.1 19 = .ok (.if_icmp .ne 6, 3) := by decide +kernel
theorem dJ1_indexOfChar_4cfef_22 : decode mJ1_indexOfChar_4cfef.2.1 22 = .ok (.iload 5, 2) := by decide +kernel
theorem dJ1_indexOfChar_4cfef_24 : decode mJ1_indexOfChar_4cfef.2.1 24 = .ok (.ireturn, 1) := by decide +kernel
theorem dJ1_indexOfChar_4cfef_25 : decode mJ1_indexOfChar_4cfef.2.1 25 = .ok (.iinc 5 1, 3) := by decide +kernel
theorem dJ1_indexOfChar_4cfef_28 : decode mJ1_indexOfChar_4cfef.2.1 28 = .ok (.goto (-21), 3) := by decide +kernel
theorem dJ1_indexOfChar_4cfef_31 : decode mJ1_indexOfChar_4cfef.2.1 31 = .ok (.iconst (-1), 1) := by decide +kernel
theorem dJ1_indexOfChar_4cfef_32 : decode mJ1_indexOfChar_4cfef.2.1 32 = .ok (.ireturn, 1) := by decide +kernel
theorem dJ0_length_8abf5_0 : decode mJ0_length_8abf5.2.1 0 = .ok (.aload_n 0, 1) := by decide +kernel
theorem dJ0_length_8abf5_1 : decode mJ0_length_8abf5.2.1 1 = .ok (.getfield 9, 3) := by decide +kernel
theorem dJ0_length_8abf5_4 : decode mJ0_length_8abf5.2.1 4 = .ok (.arraylength, 1) := by decide +kernel
theorem dJ0_length_8abf5_5 : decode mJ0_length_8abf5.2.1 5 = .ok (.aload_n 0, 1) := by decide +kernel
theorem dJ0_length_8abf5_6 : decode mJ0_length_8abf5.2.1 6 = .ok (.invokevirtual 335, 3) := by decide +kernel
theorem dJ0_length_8abf5_9 : decode mJ0_length_8abf5.2.1 9 = .ok (.ishr, 1) := by decide +kernel
theorem dJ0_length_8abf5_10 : decode mJ0_length_8abf5.2.1 10 = .ok (.ireturn, 1) := by decide +kernel
theorem dJ0_charAt_5068e_0 : decode mJ0_charAt_5068e.2.1 0 = .ok (.aload_n 0, 1) := by decide +kernel
theorem dJ0_charAt_5068e_1 : decode mJ0_charAt_5068e.2.1 1 = .ok (.invokevirtual 492, 3) := by decide +kernel
theorem dJ0_charAt_5068e_4 : decode mJ0_charAt_5068e.2.1 4 = .ok (.ifCond .eq 12, 3) := by decide +kernel
theorem dJ0_charAt_5068e_7 : decode mJ0_charAt_5068e.2.1 7 = .ok (.aload_n 0, 1) := by decide +kernel
theorem dJ0_charAt_5068e_8 : decode mJ0_charAt_5068e.2.1 8 = .ok (.getfield 9, 3) := by decide +kernel
theorem dJ0_charAt_5068e_11 : decode mJ0_charAt_5068e.2.1 11 = .ok (.iload_n 1, 1) := by decide +kernel
theorem dJ0_charAt_5068e_12 : decode mJ0_charAt_5068e.2.1 12 = .ok (.invokestatic 495, 3) := by decide +kernel
theorem dJ0_charAt_5068e_15 : decode mJ0_charAt_5068e.2.1 15 = .ok (.ireturn, 1) := by decide +kernel
theorem dJ0_charAt_5068e_16 : decode mJ0_charAt_5068e.2.1 16 = .ok (.aload_n 0, 1) := by decide +kernel
theorem dJ0_charAt_5068e_17 : decode mJ0_charAt_5068e.2.1 17 = .ok (.getfield 9, 3) := by decide +kernel
theorem dJ0_charAt_5068e_20 : decode mJ0_charAt_5068e.2.1 20 = .ok (.iload_n 1, 1) := by decide +kernel
theorem dJ0_charAt_5068e_21 : decode mJ0_charAt_5068e.2.1 21 = .ok (.invokestatic 498, 3) := by decide +kernel
theorem dJ1_indexOf_4cfef_0 : decode mJ1_indexOf_4cfef.2.1 0 = .ok (.iload_n 1, 1) := by decide +kernel
theorem dJ1_indexOf_4cfef_1 : decode mJ1_indexOf_4cfef.2.1 1 = .ok (.invokestatic 88, 3) := by decide +kernel
theorem dJ1_indexOf_4cfef_4 : decode mJ1_indexOf_4cfef.2.1 4 = .ok (.ifCond .ne 5, 3) := by decide +kernel
theorem dJ1_indexOf_4cfef_7 : decode mJ1_indexOf_4cfef.2.1 7 = .ok (.iconst (-1), 1) := by decide +kernel
theorem dJ1_indexOf_4cfef_8 : decode mJ1_indexOf_4cfef.2.1 8 = .ok (.ireturn, 1) := by decide +kernel
theorem dJ1_indexOf_4cfef_9 : decode mJ1_indexOf_4cfef.2.1 9 = .ok (.iload_n 2, 1) := by decide +kernel
theorem dJ1_indexOf_4cfef_10 : decode mJ1_indexOf_4cfef.2.1 10 = .ok (.iconst 0, 1) := by decide +kernel
theorem dJ1_indexOf_4cfef_11 : decode mJ1_indexOf_4cfef.2.1 11 = .ok (.invokestatic 92, 3) := by decide +kernel
theorem dJ1_indexOf_4cfef_14 : decode mJ1_indexOf_4cfef.2.1 14 = .ok (.istore_n 2, 1) := by decide +kernel
theorem dJ1_indexOf_4cfef_15 : decode mJ1_indexOf_4cfef.2.1 15 = .ok (.iload_n 3, 1) := by decide +kernel
theorem dJ1_indexOf_4cfef_16 : decode mJ1_indexOf_4cfef.2.1 16 = .ok (.aload_n 0, 1) := by decide +kernel
theorem dJ1_indexOf_4cfef_17 : decode mJ1_indexOf_4cfef.2.1 17 = .ok (.arraylength, 1) := by decide +kernel
theorem dJ1_indexOf_4cfef_18 : decode mJ1_indexOf_4cfef.2.1 18 = .ok (.invokestatic 38, 3) := by decide +kernel
theorem dJ1_indexOf_4cfef_21 : decode mJ1_indexOf_4cfef.2.1 21 = .ok (.istore_n 3, 1) := by decide +kernel
theorem dJ1_indexOf_4cfef_22 : decode mJ1_indexOf_4cfef.2.1 22 = .ok (.iload_n 2, 1) := by decide +kernel
theorem dJ1_indexOf_4cfef_23 : decode mJ1_indexOf_4cfef.2.1 23 = .ok (.iload_n 3, 1) := by decide +kernel
theorem dJ1_indexOf_4cfef_24 : decode mJ1_indexOf_4cfef.2.1 24 = .ok (.if_icmp .lt 5, 3) := by decide +kernel
theorem dJ1_indexOf_4cfef_27 : decode mJ1_indexOf_4cfef.2.1 27 = .ok (.iconst (-1), 1) := by decide +kernel
theorem dJ1_indexOf_4cfef_28 : decode mJ1_indexOf_4cfef.2.1 28 = .ok (.ireturn, 1) := by decide +kernel
theorem dJ1_indexOf_4cfef_29 : decode mJ1_indexOf_4cfef.2.1 29 = .ok (.aload_n 0, 1) := by decide +kernel
theorem dJ1_indexOf_4cfef_30 : decode mJ1_indexOf_4cfef.2.1 30 = .ok (.iload_n 1, 1) := by decide +kernel
theorem dJ1_indexOf_4cfef_31 : decode mJ1_indexOf_4cfef.2.1 31 = .ok (.iload_n 2, 1) := by decide +kernel
theorem dJ1_indexOf_4cfef_32 : decode mJ1_indexOf_4cfef.2.1 32 = .ok (.iload_n 3, 1) := by decide +kernel
theorem dJ1_indexOf_4cfef_33 : decode mJ1_indexOf_4cfef.2.1 33 = .ok (.invokestatic 95, 3) := by decide +kernel
theorem dJ1_indexOf_4cfef_36 : decode mJ1_indexOf_4cfef.2.1 36 = .ok (.ireturn, 1) := by decide +kernel
theorem dJ0_indexOf_7cf53_0 : decode mJ0_indexOf_7cf53.2.1 0 = .ok (.aload_n 0, 1) := by decide +kernel
theorem dJ0_indexOf_7cf53_1 : decode mJ0_indexOf_7cf53.2.1 1 = .ok (.invokevirtual 492, 3) := by decide +kernel
theorem dJ0_indexOf_7cf53_4 : decode mJ0_indexOf_7cf53.2.1 4 = .ok (.ifCond .eq 19, 3) := by decide +kernel
theorem dJ0_indexOf_7cf53_7 : decode mJ0_indexOf_7cf53.2.1 7 = .ok (.aload_n 0, 1) := by decide +kernel
theorem dJ0_indexOf_7cf53_8 : decode mJ0_indexOf_7cf53.2.1 8 = .ok (.getfield 9, 3) := by decide +kernel
theorem dJ0_indexOf_7cf53_11 : decode mJ0_indexOf_7cf53.2.1 11 = .ok (.iload_n 1, 1) := by decide +kernel
theorem dJ0_indexOf_7cf53_12 : decode mJ0_indexOf_7cf53.2.1 12 = .ok (.iload_n 2, 1) := by decide +kernel
theorem dJ0_indexOf_7cf53_13 : decode mJ0_indexOf_7cf53.2.1 13 = .ok (.aload_n 0, 1) := by decide +kernel
theorem dJ0_indexOf_7cf53_14 : decode mJ0_indexOf_7cf53.2.1 14 = .ok (.invokevirtual 505, 3) := by decide +kernel
theorem dJ0_indexOf_7cf53_17 : decode mJ0_indexOf_7cf53.2.1 17 = .ok (.invokestatic 637, 3) := by decide +kernel
theorem dJ0_indexOf_7cf53_20 : decode mJ0_indexOf_7cf53.2.1 20 = .ok (.goto 16, 3) := by decide +kernel
theorem dJ0_indexOf_7cf53_23 : decode mJ0_indexOf_7cf53.2.1 23 = .ok (.aload_n 0, 1) := by decide +kernel
theorem dJ0_indexOf_7cf53_24 : decode mJ0_indexOf_7cf53.2.1 24 = .ok (.getfield 9, 3) := by decide +kernel
theorem dJ0_indexOf_7cf53_27 : decode mJ0_indexOf_7cf53.2.1 27 = .ok (.iload_n 1, 1) := by decide +kernel
theorem dJ0_indexOf_7cf53_28 : decode mJ0_indexOf_7cf53.2.1 28 = .ok (.iload_n 2, 1) := by decide +kernel
theorem dJ0_indexOf_7cf53_29 : decode mJ0_indexOf_7cf53.2.1 29 = .ok (.aload_n 0, 1) := by decide +kernel
theorem dJ0_indexOf_7cf53_30 : decode mJ0_indexOf_7cf53.2.1 30 = .ok (.invokevirtual 505, 3) := by decide +kernel
theorem dJ0_indexOf_7cf53_33 : decode mJ0_indexOf_7cf53.2.1 33 = .ok (.invokestatic 640, 3) := by decide +kernel
theorem dJ0_indexOf_7cf53_36 : decode mJ0_indexOf_7cf53.2.1 36 = .ok (.ireturn, 1) := by decide +kernel
theorem dJ0_indexOf_0f7a4_0 : decode mJ0_indexOf_0f7a4.2.1 0 = .ok (.aload_n 0, 1) := by decide +kernel
theorem dJ0_indexOf_0f7a4_1 : decode mJ0_indexOf_0f7a4.2.1 1 = .ok (.iload_n 1, 1) := by decide +kernel
theorem dJ0_indexOf_0f7a4_2 : decode mJ0_indexOf_0f7a4.2.1 2 = .ok (.iconst 0, 1) := by decide +kernel
theorem dJ0_indexOf_0f7a4_3 : decode mJ0_indexOf_0f7a4.2.1 3 = .ok (.invokevirtual 633, 3) := by decide +kernel
theorem dJ0_indexOf_0f7a4_6 : decode mJ0_indexOf_0f7a4.2.1 6 = .ok (.ireturn, 1) := by decide +kernel
theorem dX11_within_0 : decode mX11_within.2.1 0 = .ok (.iload_n 0, 1) := by decide +kernel
theorem dX11_within_1 : decode mX11_within.2.1 1 = .ok (.iload_n 1, 1) := by decide +kernel
theorem dX11_within_2 : decode mX11_within.2.1 2 = .ok (.if_icmp .lt 12, 3) := by decide +kernel
theorem dX11_within_5 : decode mX11_within.2.1 5 = .ok (.iload_n 0, 1) := by decide +kernel
theorem dX11_within_6 : decode mX11_within.2.1 6 = .ok (.iload_n 2, 1) := by decide +kernel
theorem dX11_within_7 : decode mX11_within.2.1 7 = .ok (.if_icmp .gt 7, 3) := by decide +kernel
theorem dX11_within_10 : decode mX11_within.2.1 10 = .ok (.iconst 1, 1) := by decide +kernel
theorem dX11_within_11 : decode mX11_within.2.1 11 = .ok (.goto 4, 3) := by decide +kernel
theorem dX11_within_14 : decode mX11_within.2.1 14 = .ok (.iconst 0, 1) := by decide +kernel
theorem dX11_within_15 : decode mX11_within.2.1 15 = .ok (.ireturn, 1) := by decide +kernel
theorem dX11_isCell_0 : decode mX11_isCell.2.1 0 = .ok (.iload_n 0, 1) := by decide +kernel
theorem dX11_isCell_1 : decode mX11_isCell.2.1 1 = .ok (.ifCond .lt 13, 3) := by decide +kernel
theorem dX11_isCell_4 : decode mX11_isCell.2.1 4 = .ok (.iload_n 0, 1) := by decide +kernel
theorem dX11_isCell_5 : decode mX11_isCell.2.1 5 = .ok (.bipush 64, 2) := by decide +kernel
theorem dX11_isCell_7 : decode mX11_isCell.2.1 7 = .ok (.if_icmp .ge 7, 3) := by decide +kernel
theorem dX11_isCell_10 : decode mX11_isCell.2.1 10 = .ok (.iconst 1, 1) := by decide +kernel
theorem dX11_isCell_11 : decode mX11_isCell.2.1 11 = .ok (.goto 4, 3) := by decide +kernel
theorem dX11_isCell_14 : decode mX11_isCell.2.1 14 = .ok (.iconst 0, 1) := by decide +kernel
theorem dX11_isCell_15 : decode mX11_isCell.2.1 15 = .ok (.ireturn, 1) := by decide +kernel
theorem dX11_isOdds_0 : decode mX11_isOdds.2.1 0 = .ok (.iload_n 0, 1) := by decide +kernel
theorem dX11_isOdds_1 : decode mX11_isOdds.2.1 1 = .ok (.iconst 1, 1) := by decide +kernel
theorem dX11_isOdds_2 : decode mX11_isOdds.2.1 2 = .ok (.bipush 99, 2) := by decide +kernel
theorem dX11_isOdds_4 : decode mX11_isOdds.2.1 4 = .ok (.invokestatic 71, 3) := by decide +kernel
theorem dX11_isOdds_7 : decode mX11_isOdds.2.1 7 = .ok (.ireturn, 1) := by decide +kernel
theorem dX11_areMarks_0 : decode mX11_areMarks.2.1 0 = .ok (.iload_n 0, 1) := by decide +kernel
theorem dX11_areMarks_1 : decode mX11_areMarks.2.1 1 = .ok (.iconst 0, 1) := by decide +kernel
theorem dX11_areMarks_2 : decode mX11_areMarks.2.1 2 = .ok (.bipush 15, 2) := by decide +kernel
theorem dX11_areMarks_4 : decode mX11_areMarks.2.1 4 = .ok (.invokestatic 71, 3) := by decide +kernel
theorem dX11_areMarks_7 : decode mX11_areMarks.2.1 7 = .ok (.ireturn, 1) := by decide +kernel
theorem dX11_isSetting_0 : decode mX11_isSetting.2.1 0 = .ok (.iload_n 0, 1) := by decide +kernel
theorem dX11_isSetting_1 : decode mX11_isSetting.2.1 1 = .ok (.tableswitch 65 0 3 #[31, 40, 49, 57], 31) := by decide +kernel
theorem dX11_isSetting_32 : decode mX11_isSetting.2.1 32 = .ok (.iload_n 1, 1) := by decide +kernel
theorem dX11_isSetting_33 : decode mX11_isSetting.2.1 33 = .ok (.iconst 1, 1) := by decide +kernel
theorem dX11_isSetting_34 : decode mX11_isSetting.2.1 34 = .ok (.sipush 9999, 3) := by decide +kernel
theorem dX11_isSetting_37 : decode mX11_isSetting.2.1 37 = .ok (.invokestatic 71, 3) := by decide +kernel
theorem dX11_isSetting_40 : decode mX11_isSetting.2.1 40 = .ok (.ireturn, 1) := by decide +kernel
theorem dX11_isSetting_41 : decode mX11_isSetting.2.1 41 = .ok (.iload_n 1, 1) := by decide +kernel
theorem dX11_isSetting_42 : decode mX11_isSetting.2.1 42 = .ok (.iconst 1, 1) := by decide +kernel
theorem dX11_isSetting_43 : decode mX11_isSetting.2.1 43 = .ok (.sipush 9999, 3) := by decide +kernel
theorem dX11_isSetting_46 : decode mX11_isSetting.2.1 46 = .ok (.invokestatic 71, 3) := by decide +kernel
theorem dX11_isSetting_49 : decode mX11_isSetting.2.1 49 = .ok (.ireturn, 1) := by decide +kernel
theorem dX11_isSetting_50 : decode mX11_isSetting.2.1 50 = .ok (.iload_n 1, 1) := by decide +kernel
theorem dX11_isSetting_51 : decode mX11_isSetting.2.1 51 = .ok (.iconst 0, 1) := by decide +kernel
theorem dX11_isSetting_52 : decode mX11_isSetting.2.1 52 = .ok (.bipush 100, 2) := by decide +kernel
theorem dX11_isSetting_54 : decode mX11_isSetting.2.1 54 = .ok (.invokestatic 71, 3) := by decide +kernel
theorem dX11_isSetting_57 : decode mX11_isSetting.2.1 57 = .ok (.ireturn, 1) := by decide +kernel
theorem dX11_isSetting_58 : decode mX11_isSetting.2.1 58 = .ok (.iload_n 1, 1) := by decide +kernel
theorem dX11_isSetting_59 : decode mX11_isSetting.2.1 59 = .ok (.iconst 0, 1) := by decide +kernel
theorem dX11_isSetting_60 : decode mX11_isSetting.2.1 60 = .ok (.bipush 14, 2) := by decide +kernel
theorem dX11_isSetting_62 : decode mX11_isSetting.2.1 62 = .ok (.invokestatic 71, 3) := by decide +kernel
theorem dX11_isSetting_65 : decode mX11_isSetting.2.1 65 = .ok (.ireturn, 1) := by decide +kernel
theorem dX11_isSetting_66 : decode mX11_isSetting.2.1 66 = .ok (.iconst 0, 1) := by decide +kernel
theorem dX11_isSetting_67 : decode mX11_isSetting.2.1 67 = .ok (.ireturn, 1) := by decide +kernel
theorem dX11_beside_0 : decode mX11_beside.2.1 0 = .ok (.iload_n 1, 1) := by decide +kernel
theorem dX11_beside_1 : decode mX11_beside.2.1 1 = .ok (.tableswitch 74 0 2 #[27, 42, 57], 27) := by decide +kernel
theorem dX11_beside_28 : decode mX11_beside.2.1 28 = .ok (.iload_n 0, 1) := by decide +kernel
theorem dX11_beside_29 : decode mX11_beside.2.1 29 = .ok (.bipush 8, 2) := by decide +kernel
theorem dX11_beside_31 : decode mX11_beside.2.1 31 = .ok (.if_icmp .lt 10, 3) := by decide +kernel
theorem dX11_beside_34 : decode mX11_beside.2.1 34 = .ok (.iload_n 0, 1) := by decide +kernel
theorem dX11_beside_35 : decode mX11_beside.2.1 35 = .ok (.bipush 8, 2) := by decide +kernel
theorem dX11_beside_37 : decode mX11_beside.2.1 37 = .ok (.isub, 1) := by decide +kernel
theorem dX11_beside_38 : decode mX11_beside.2.1 38 = .ok (.goto 4, 3) := by decide +kernel
theorem dX11_beside_41 : decode mX11_beside.2.1 41 = .ok (.iconst (-1), 1) := by decide +kernel
theorem dX11_beside_42 : decode mX11_beside.2.1 42 = .ok (.ireturn, 1) := by decide +kernel
theorem dX11_beside_43 : decode mX11_beside.2.1 43 = .ok (.iload_n 0, 1) := by decide +kernel
theorem dX11_beside_44 : decode mX11_beside.2.1 44 = .ok (.bipush 8, 2) := by decide +kernel
theorem dX11_beside_46 : decode mX11_beside.2.1 46 = .ok (.irem, 1) := by decide +kernel
theorem dX11_beside_47 : decode mX11_beside.2.1 47 = .ok (.ifCond .le 9, 3) := by decide +kernel
theorem dX11_beside_50 : decode mX11_beside.2.1 50 = .ok (.iload_n 0, 1) := by decide +kernel
theorem dX11_beside_51 : decode mX11_beside.2.1 51 = .ok (.iconst 1, 1) := by decide +kernel
theorem dX11_beside_52 : decode mX11_beside.2.1 52 = .ok (.isub, 1) := by decide +kernel
theorem dX11_beside_53 : decode mX11_beside.2.1 53 = .ok (.goto 4, 3) := by decide +kernel
theorem dX11_beside_56 : decode mX11_beside.2.1 56 = .ok (.iconst (-1), 1) := by decide +kernel
theorem dX11_beside_57 : decode mX11_beside.2.1 57 = .ok (.ireturn, 1) := by decide +kernel
theorem dX11_beside_58 : decode mX11_beside.2.1 58 = .ok (.iload_n 0, 1) := by decide +kernel
theorem dX11_beside_59 : decode mX11_beside.2.1 59 = .ok (.bipush 8, 2) := by decide +kernel
theorem dX11_beside_61 : decode mX11_beside.2.1 61 = .ok (.irem, 1) := by decide +kernel
theorem dX11_beside_62 : decode mX11_beside.2.1 62 = .ok (.bipush 7, 2) := by decide +kernel
theorem dX11_beside_64 : decode mX11_beside.2.1 64 = .ok (.if_icmp .ge 9, 3) := by decide +kernel
theorem dX11_beside_67 : decode mX11_beside.2.1 67 = .ok (.iload_n 0, 1) := by decide +kernel
theorem dX11_beside_68 : decode mX11_beside.2.1 68 = .ok (.iconst 1, 1) := by decide +kernel
theorem dX11_beside_69 : decode mX11_beside.2.1 69 = .ok (.iadd, 1) := by decide +kernel
theorem dX11_beside_70 : decode mX11_beside.2.1 70 = .ok (.goto 4, 3) := by decide +kernel
theorem dX11_beside_73 : decode mX11_beside.2.1 73 = .ok (.iconst (-1), 1) := by decide +kernel
theorem dX11_beside_74 : decode mX11_beside.2.1 74 = .ok (.ireturn, 1) := by decide +kernel
theorem dX11_beside_75 : decode mX11_beside.2.1 75 = .ok (.iload_n 0, 1) := by decide +kernel
theorem dX11_beside_76 : decode mX11_beside.2.1 76 = .ok (.bipush 8, 2) := by decide +kernel
theorem dX11_beside_78 : decode mX11_beside.2.1 78 = .ok (.iadd, 1) := by decide +kernel
theorem dX11_beside_79 : decode mX11_beside.2.1 79 = .ok (.bipush 64, 2) := by decide +kernel
theorem dX11_beside_81 : decode mX11_beside.2.1 81 = .ok (.if_icmp .ge 10, 3) := by decide +kernel
theorem dX11_beside_84 : decode mX11_beside.2.1 84 = .ok (.iload_n 0, 1) := by decide +kernel
theorem dX11_beside_85 : decode mX11_beside.2.1 85 = .ok (.bipush 8, 2) := by decide +kernel
theorem dX11_beside_87 : decode mX11_beside.2.1 87 = .ok (.iadd, 1) := by decide +kernel
theorem dX11_beside_88 : decode mX11_beside.2.1 88 = .ok (.goto 4, 3) := by decide +kernel
theorem dX11_beside_91 : decode mX11_beside.2.1 91 = .ok (.iconst (-1), 1) := by decide +kernel
theorem dX11_beside_92 : decode mX11_beside.2.1 92 = .ok (.ireturn, 1) := by decide +kernel
theorem dX11_bit_0 : decode mX11_bit.2.1 0 = .ok (.lconst 1, 1) := by decide +kernel
theorem dX11_bit_1 : decode mX11_bit.2.1 1 = .ok (.iload_n 0, 1) := by decide +kernel
theorem dX11_bit_2 : decode mX11_bit.2.1 2 = .ok (.lshl, 1) := by decide +kernel
theorem dX11_bit_3 : decode mX11_bit.2.1 3 = .ok (.lreturn, 1) := by decide +kernel
theorem dX11_far_0 : decode mX11_far.2.1 0 = .ok (.iload_n 0, 1) := by decide +kernel
theorem dX11_far_1 : decode mX11_far.2.1 1 = .ok (.bipush 8, 2) := by decide +kernel
theorem dX11_far_3 : decode mX11_far.2.1 3 = .ok (.irem, 1) := by decide +kernel
theorem dX11_far_4 : decode mX11_far.2.1 4 = .ok (.iload_n 1, 1) := by decide +kernel
theorem dX11_far_5 : decode mX11_far.2.1 5 = .ok (.bipush 8, 2) := by decide +kernel
theorem dX11_far_7 : decode mX11_far.2.1 7 = .ok (.irem, 1) := by decide +kernel
theorem dX11_far_8 : decode mX11_far.2.1 8 = .ok (.isub, 1) := by decide +kernel
theorem dX11_far_9 : decode mX11_far.2.1 9 = .ok (.invokestatic 334, 3) := by decide +kernel
theorem dX11_far_12 : decode mX11_far.2.1 12 = .ok (.iload_n 0, 1) := by decide +kernel
theorem dX11_far_13 : decode mX11_far.2.1 13 = .ok (.bipush 8, 2) := by decide +kernel
theorem dX11_far_15 : decode mX11_far.2.1 15 = .ok (.idiv, 1) := by decide +kernel
theorem dX11_far_16 : decode mX11_far.2.1 16 = .ok (.iload_n 1, 1) := by decide +kernel
theorem dX11_far_17 : decode mX11_far.2.1 17 = .ok (.bipush 8, 2) := by decide +kernel
theorem dX11_far_19 : decode mX11_far.2.1 19 = .ok (.idiv, 1) := by decide +kernel
theorem dX11_far_20 : decode mX11_far.2.1 20 = .ok (.isub, 1) := by decide +kernel
theorem dX11_far_21 : decode mX11_far.2.1 21 = .ok (.invokestatic 334, 3) := by decide +kernel
theorem dX11_far_24 : decode mX11_far.2.1 24 = .ok (.iadd, 1) := by decide +kernel
theorem dX11_far_25 : decode mX11_far.2.1 25 = .ok (.ireturn, 1) := by decide +kernel
def w_J6_bitCount_0f7a4 (a1 : Int32) (M : am_I) (N : am_N) (post : Int32 → am_I → am_N → Prop) : Prop :=
  ∀ zv1 : Int32, zv1 = a1 - (((a1.toUInt32 >>> ((1 : Int32).toUInt32 &&& Int32.toUInt32 31)).toInt32) &&& 1431655765) → ∀ zv2 : Int32, zv2 = (zv1 &&& 858993459) + (((zv1.toUInt32 >>> ((2 : Int32).toUInt32 &&& Int32.toUInt32 31)).toInt32) &&& 858993459) → ∀ zv3 : Int32, zv3 = (zv2 + ((zv2.toUInt32 >>> ((4 : Int32).toUInt32 &&& Int32.toUInt32 31)).toInt32)) &&& 252645135 → ∀ zv4 : Int32, zv4 = zv3 + ((zv3.toUInt32 >>> ((8 : Int32).toUInt32 &&& Int32.toUInt32 31)).toInt32) → ∀ zv5 : Int32, zv5 = zv4 + ((zv4.toUInt32 >>> ((16 : Int32).toUInt32 &&& Int32.toUInt32 31)).toInt32) → post (zv5 &&& 63) M N
set_option maxRecDepth 10000 in
theorem k_J6_bitCount_0f7a4 {d : Nat} {dm : List am_C}  {a1 : Int32} {M : am_I} {N : am_N} {post : Int32 → am_I → am_N → Prop} (h : w_J6_bitCount_0f7a4 a1 M N post) : jg (d + 1) mJ6_bitCount_0f7a4 dm 0 [(0, .inl a1)] [] M N (am_pi post) := by
  refine j_iload_n 0 dJ6_bitCount_0f7a4_0 rfl ?_
  refine j_iload_n 0 dJ6_bitCount_0f7a4_1 rfl ?_
  refine j_iconst (v := 1) dJ6_bitCount_0f7a4_2 (by decide) ?_
  refine j_iushr dJ6_bitCount_0f7a4_3 ?_
  refine j_ldcw (v := 1431655765) dJ6_bitCount_0f7a4_4 cw_1014 ?_
  refine j_iand dJ6_bitCount_0f7a4_7 ?_
  refine j_isub dJ6_bitCount_0f7a4_8 ?_
  refine j_topi (fun zv1 hzv1 => ?_)
  replace h := h zv1 hzv1
  refine j_istore_n dJ6_bitCount_0f7a4_9 (by decide) rfl ?_
  refine j_iload_n 0 dJ6_bitCount_0f7a4_10 rfl ?_
  refine j_ldcw (v := 858993459) dJ6_bitCount_0f7a4_11 cw_1015 ?_
  refine j_iand dJ6_bitCount_0f7a4_14 ?_
  refine j_iload_n 0 dJ6_bitCount_0f7a4_15 rfl ?_
  refine j_iconst (v := 2) dJ6_bitCount_0f7a4_16 (by decide) ?_
  refine j_iushr dJ6_bitCount_0f7a4_17 ?_
  refine j_ldcw (v := 858993459) dJ6_bitCount_0f7a4_18 cw_1015 ?_
  refine j_iand dJ6_bitCount_0f7a4_21 ?_
  refine j_iadd dJ6_bitCount_0f7a4_22 ?_
  refine j_topi (fun zv2 hzv2 => ?_)
  replace h := h zv2 hzv2
  refine j_istore_n dJ6_bitCount_0f7a4_23 (by decide) rfl ?_
  refine j_iload_n 0 dJ6_bitCount_0f7a4_24 rfl ?_
  refine j_iload_n 0 dJ6_bitCount_0f7a4_25 rfl ?_
  refine j_iconst (v := 4) dJ6_bitCount_0f7a4_26 (by decide) ?_
  refine j_iushr dJ6_bitCount_0f7a4_27 ?_
  refine j_iadd dJ6_bitCount_0f7a4_28 ?_
  refine j_ldcw (v := 252645135) dJ6_bitCount_0f7a4_29 cw_1016 ?_
  refine j_iand dJ6_bitCount_0f7a4_32 ?_
  refine j_topi (fun zv3 hzv3 => ?_)
  replace h := h zv3 hzv3
  refine j_istore_n dJ6_bitCount_0f7a4_33 (by decide) rfl ?_
  refine j_iload_n 0 dJ6_bitCount_0f7a4_34 rfl ?_
  refine j_iload_n 0 dJ6_bitCount_0f7a4_35 rfl ?_
  refine j_bipush (v := 8) dJ6_bitCount_0f7a4_36 (by decide) ?_
  refine j_iushr dJ6_bitCount_0f7a4_38 ?_
  refine j_iadd dJ6_bitCount_0f7a4_39 ?_
  refine j_topi (fun zv4 hzv4 => ?_)
  replace h := h zv4 hzv4
  refine j_istore_n dJ6_bitCount_0f7a4_40 (by decide) rfl ?_
  refine j_iload_n 0 dJ6_bitCount_0f7a4_41 rfl ?_
  refine j_iload_n 0 dJ6_bitCount_0f7a4_42 rfl ?_
  refine j_bipush (v := 16) dJ6_bitCount_0f7a4_43 (by decide) ?_
  refine j_iushr dJ6_bitCount_0f7a4_45 ?_
  refine j_iadd dJ6_bitCount_0f7a4_46 ?_
  refine j_topi (fun zv5 hzv5 => ?_)
  replace h := h zv5 hzv5
  refine j_istore_n dJ6_bitCount_0f7a4_47 (by decide) rfl ?_
  refine j_iload_n 0 dJ6_bitCount_0f7a4_48 rfl ?_
  refine j_bipush (v := 63) dJ6_bitCount_0f7a4_49 (by decide) ?_
  refine j_iand dJ6_bitCount_0f7a4_51 ?_
  exact j_iret dJ6_bitCount_0f7a4_52 rfl ⟨_, rfl, h⟩
def w_J13_bitCount_95d88 (a1 : Int64) (M : am_I) (N : am_N) (post : Int32 → am_I → am_N → Prop) : Prop :=
  ∀ zv1 : Int64, zv1 = a1 - (((a1.toUInt64 >>> ((1 : Int32).toInt64.toUInt64 &&& Int64.toUInt64 63)).toInt64) &&& 6148914691236517205) → ∀ zv2 : Int64, zv2 = (zv1 &&& 3689348814741910323) + (((zv1.toUInt64 >>> ((2 : Int32).toInt64.toUInt64 &&& Int64.toUInt64 63)).toInt64) &&& 3689348814741910323) → ∀ zv3 : Int64, zv3 = (zv2 + ((zv2.toUInt64 >>> ((4 : Int32).toInt64.toUInt64 &&& Int64.toUInt64 63)).toInt64)) &&& 1085102592571150095 → ∀ zv4 : Int64, zv4 = zv3 + ((zv3.toUInt64 >>> ((8 : Int32).toInt64.toUInt64 &&& Int64.toUInt64 63)).toInt64) → ∀ zv5 : Int64, zv5 = zv4 + ((zv4.toUInt64 >>> ((16 : Int32).toInt64.toUInt64 &&& Int64.toUInt64 63)).toInt64) → ∀ zv6 : Int64, zv6 = zv5 + ((zv5.toUInt64 >>> ((32 : Int32).toInt64.toUInt64 &&& Int64.toUInt64 63)).toInt64) → post (zv6.toInt32 &&& 127) M N
set_option maxRecDepth 10000 in
theorem k_J13_bitCount_95d88 {d : Nat} {dm : List am_C}  {a1 : Int64} {M : am_I} {N : am_N} {post : Int32 → am_I → am_N → Prop} (h : w_J13_bitCount_95d88 a1 M N post) : jg (d + 1) mJ13_bitCount_95d88 dm 0 [(0, .inr (.inl a1))] [] M N (am_pi post) := by
  refine j_lload_n 0 dJ13_bitCount_95d88_0 rfl ?_
  refine j_lload_n 0 dJ13_bitCount_95d88_1 rfl ?_
  refine j_iconst (v := 1) dJ13_bitCount_95d88_2 (by decide) ?_
  refine j_lushr dJ13_bitCount_95d88_3 ?_
  refine j_ldc2 (v := 6148914691236517205) dJ13_bitCount_95d88_4 cw_940 ?_
  refine j_land dJ13_bitCount_95d88_7 ?_
  refine j_lsub dJ13_bitCount_95d88_8 ?_
  refine j_topl (fun zv1 hzv1 => ?_)
  replace h := h zv1 hzv1
  refine j_lstore_n dJ13_bitCount_95d88_9 (by decide) rfl ?_
  refine j_lload_n 0 dJ13_bitCount_95d88_10 rfl ?_
  refine j_ldc2 (v := 3689348814741910323) dJ13_bitCount_95d88_11 cw_941 ?_
  refine j_land dJ13_bitCount_95d88_14 ?_
  refine j_lload_n 0 dJ13_bitCount_95d88_15 rfl ?_
  refine j_iconst (v := 2) dJ13_bitCount_95d88_16 (by decide) ?_
  refine j_lushr dJ13_bitCount_95d88_17 ?_
  refine j_ldc2 (v := 3689348814741910323) dJ13_bitCount_95d88_18 cw_941 ?_
  refine j_land dJ13_bitCount_95d88_21 ?_
  refine j_ladd dJ13_bitCount_95d88_22 ?_
  refine j_topl (fun zv2 hzv2 => ?_)
  replace h := h zv2 hzv2
  refine j_lstore_n dJ13_bitCount_95d88_23 (by decide) rfl ?_
  refine j_lload_n 0 dJ13_bitCount_95d88_24 rfl ?_
  refine j_lload_n 0 dJ13_bitCount_95d88_25 rfl ?_
  refine j_iconst (v := 4) dJ13_bitCount_95d88_26 (by decide) ?_
  refine j_lushr dJ13_bitCount_95d88_27 ?_
  refine j_ladd dJ13_bitCount_95d88_28 ?_
  refine j_ldc2 (v := 1085102592571150095) dJ13_bitCount_95d88_29 cw_942 ?_
  refine j_land dJ13_bitCount_95d88_32 ?_
  refine j_topl (fun zv3 hzv3 => ?_)
  replace h := h zv3 hzv3
  refine j_lstore_n dJ13_bitCount_95d88_33 (by decide) rfl ?_
  refine j_lload_n 0 dJ13_bitCount_95d88_34 rfl ?_
  refine j_lload_n 0 dJ13_bitCount_95d88_35 rfl ?_
  refine j_bipush (v := 8) dJ13_bitCount_95d88_36 (by decide) ?_
  refine j_lushr dJ13_bitCount_95d88_38 ?_
  refine j_ladd dJ13_bitCount_95d88_39 ?_
  refine j_topl (fun zv4 hzv4 => ?_)
  replace h := h zv4 hzv4
  refine j_lstore_n dJ13_bitCount_95d88_40 (by decide) rfl ?_
  refine j_lload_n 0 dJ13_bitCount_95d88_41 rfl ?_
  refine j_lload_n 0 dJ13_bitCount_95d88_42 rfl ?_
  refine j_bipush (v := 16) dJ13_bitCount_95d88_43 (by decide) ?_
  refine j_lushr dJ13_bitCount_95d88_45 ?_
  refine j_ladd dJ13_bitCount_95d88_46 ?_
  refine j_topl (fun zv5 hzv5 => ?_)
  replace h := h zv5 hzv5
  refine j_lstore_n dJ13_bitCount_95d88_47 (by decide) rfl ?_
  refine j_lload_n 0 dJ13_bitCount_95d88_48 rfl ?_
  refine j_lload_n 0 dJ13_bitCount_95d88_49 rfl ?_
  refine j_bipush (v := 32) dJ13_bitCount_95d88_50 (by decide) ?_
  refine j_lushr dJ13_bitCount_95d88_52 ?_
  refine j_ladd dJ13_bitCount_95d88_53 ?_
  refine j_topl (fun zv6 hzv6 => ?_)
  replace h := h zv6 hzv6
  refine j_lstore_n dJ13_bitCount_95d88_54 (by decide) rfl ?_
  refine j_lload_n 0 dJ13_bitCount_95d88_55 rfl ?_
  refine j_l2i dJ13_bitCount_95d88_56 ?_
  refine j_bipush (v := 127) dJ13_bitCount_95d88_57 (by decide) ?_
  refine j_iand dJ13_bitCount_95d88_59 ?_
  exact j_iret dJ13_bitCount_95d88_60 rfl ⟨_, rfl, h⟩
def w_J9_abs_0f7a4 (a1 : Int32) (M : am_I) (N : am_N) (post : Int32 → am_I → am_N → Prop) : Prop :=
  ((0 ≤ a1 → post a1 M N) ∧ (¬ 0 ≤ a1 → post (-a1) M N))
set_option maxRecDepth 10000 in
theorem k_J9_abs_0f7a4 {d : Nat} {dm : List am_C}  {a1 : Int32} {M : am_I} {N : am_N} {post : Int32 → am_I → am_N → Prop} (h : w_J9_abs_0f7a4 a1 M N post) : jg (d + 1) mJ9_abs_0f7a4 dm 0 [(0, .inl a1)] [] M N (am_pi post) := by
  refine j_iload_n 0 dJ9_abs_0f7a4_0 rfl ?_
  refine j_if_ge (tgt := 9) dJ9_abs_0f7a4_1 (by decide) (fun hc => ?_) (fun hc => ?_)
  · replace h := h.1 hc
    refine j_iload_n 0 dJ9_abs_0f7a4_9 rfl ?_
    exact j_iret dJ9_abs_0f7a4_10 rfl ⟨_, rfl, h⟩
  · replace h := h.2 hc
    refine j_iload_n 0 dJ9_abs_0f7a4_4 rfl ?_
    refine j_ineg dJ9_abs_0f7a4_5 ?_
    refine j_goto (tgt := 10) dJ9_abs_0f7a4_6 (by decide) ?_
    exact j_iret dJ9_abs_0f7a4_10 rfl ⟨_, rfl, h⟩
def w_J9_max_7cf53 (a1 : Int32) (a2 : Int32) (M : am_I) (N : am_N) (post : Int32 → am_I → am_N → Prop) : Prop :=
  ((a1 < a2 → post a2 M N) ∧ (¬ a1 < a2 → post a1 M N))
set_option maxRecDepth 10000 in
theorem k_J9_max_7cf53 {d : Nat} {dm : List am_C}  {a1 : Int32} {a2 : Int32} {M : am_I} {N : am_N} {post : Int32 → am_I → am_N → Prop} (h : w_J9_max_7cf53 a1 a2 M N post) : jg (d + 1) mJ9_max_7cf53 dm 0 [(0, .inl a1), (1, .inl a2)] [] M N (am_pi post) := by
  refine j_iload_n 0 dJ9_max_7cf53_0 rfl ?_
  refine j_iload_n 1 dJ9_max_7cf53_1 rfl ?_
  refine j_icmp_lt (tgt := 9) dJ9_max_7cf53_2 (by decide) (fun hc => ?_) (fun hc => ?_)
  · replace h := h.1 hc
    refine j_iload_n 1 dJ9_max_7cf53_9 rfl ?_
    exact j_iret dJ9_max_7cf53_10 rfl ⟨_, rfl, h⟩
  · replace h := h.2 hc
    refine j_iload_n 0 dJ9_max_7cf53_5 rfl ?_
    refine j_goto (tgt := 10) dJ9_max_7cf53_6 (by decide) ?_
    exact j_iret dJ9_max_7cf53_10 rfl ⟨_, rfl, h⟩
def w_J9_max_f86c9 (a1 : Int64) (a2 : Int64) (M : am_I) (N : am_N) (post : Int64 → am_I → am_N → Prop) : Prop :=
  ((a1 < a2 → post a2 M N) ∧ (¬ a1 < a2 → post a1 M N))
set_option maxRecDepth 10000 in
theorem k_J9_max_f86c9 {d : Nat} {dm : List am_C}  {a1 : Int64} {a2 : Int64} {M : am_I} {N : am_N} {post : Int64 → am_I → am_N → Prop} (h : w_J9_max_f86c9 a1 a2 M N post) : jg (d + 1) mJ9_max_f86c9 dm 0 [(0, .inr (.inl a1)), (2, .inr (.inl a2))] [] M N (am_pl post) := by
  refine j_lload_n 0 dJ9_max_f86c9_0 rfl ?_
  refine j_lload_n 1 dJ9_max_f86c9_1 rfl ?_
  refine j_lcmp_lt (tgt := 10) dJ9_max_f86c9_2 dJ9_max_f86c9_3 (by decide) (fun hc => ?_) (fun hc => ?_)
  · replace h := h.1 hc
    refine j_lload_n 1 dJ9_max_f86c9_10 rfl ?_
    exact j_lret dJ9_max_f86c9_11 rfl ⟨_, rfl, h⟩
  · replace h := h.2 hc
    refine j_lload_n 0 dJ9_max_f86c9_6 rfl ?_
    refine j_goto (tgt := 11) dJ9_max_f86c9_7 (by decide) ?_
    exact j_lret dJ9_max_f86c9_11 rfl ⟨_, rfl, h⟩
def w_J9_min_7cf53 (a1 : Int32) (a2 : Int32) (M : am_I) (N : am_N) (post : Int32 → am_I → am_N → Prop) : Prop :=
  ((a2 < a1 → post a2 M N) ∧ (¬ a2 < a1 → post a1 M N))
set_option maxRecDepth 10000 in
theorem k_J9_min_7cf53 {d : Nat} {dm : List am_C}  {a1 : Int32} {a2 : Int32} {M : am_I} {N : am_N} {post : Int32 → am_I → am_N → Prop} (h : w_J9_min_7cf53 a1 a2 M N post) : jg (d + 1) mJ9_min_7cf53 dm 0 [(0, .inl a1), (1, .inl a2)] [] M N (am_pi post) := by
  refine j_iload_n 0 dJ9_min_7cf53_0 rfl ?_
  refine j_iload_n 1 dJ9_min_7cf53_1 rfl ?_
  refine j_icmp_gt (tgt := 9) dJ9_min_7cf53_2 (by decide) (fun hc => ?_) (fun hc => ?_)
  · replace h := h.1 hc
    refine j_iload_n 1 dJ9_min_7cf53_9 rfl ?_
    exact j_iret dJ9_min_7cf53_10 rfl ⟨_, rfl, h⟩
  · replace h := h.2 hc
    refine j_iload_n 0 dJ9_min_7cf53_5 rfl ?_
    refine j_goto (tgt := 10) dJ9_min_7cf53_6 (by decide) ?_
    exact j_iret dJ9_min_7cf53_10 rfl ⟨_, rfl, h⟩
def w_J9_min_f86c9 (a1 : Int64) (a2 : Int64) (M : am_I) (N : am_N) (post : Int64 → am_I → am_N → Prop) : Prop :=
  ((a2 < a1 → post a2 M N) ∧ (¬ a2 < a1 → post a1 M N))
set_option maxRecDepth 10000 in
theorem k_J9_min_f86c9 {d : Nat} {dm : List am_C}  {a1 : Int64} {a2 : Int64} {M : am_I} {N : am_N} {post : Int64 → am_I → am_N → Prop} (h : w_J9_min_f86c9 a1 a2 M N post) : jg (d + 1) mJ9_min_f86c9 dm 0 [(0, .inr (.inl a1)), (2, .inr (.inl a2))] [] M N (am_pl post) := by
  refine j_lload_n 0 dJ9_min_f86c9_0 rfl ?_
  refine j_lload_n 1 dJ9_min_f86c9_1 rfl ?_
  refine j_lcmp_gt (tgt := 10) dJ9_min_f86c9_2 dJ9_min_f86c9_3 (by decide) (fun hc => ?_) (fun hc => ?_)
  · replace h := h.1 hc
    refine j_lload_n 1 dJ9_min_f86c9_10 rfl ?_
    exact j_lret dJ9_min_f86c9_11 rfl ⟨_, rfl, h⟩
  · replace h := h.2 hc
    refine j_lload_n 0 dJ9_min_f86c9_6 rfl ?_
    refine j_goto (tgt := 11) dJ9_min_f86c9_7 (by decide) ?_
    exact j_lret dJ9_min_f86c9_11 rfl ⟨_, rfl, h⟩
def w_J0_coder_7d493 (i : Nat) (M : am_I) (N : am_N) (post : Int32 → am_I → am_N → Prop) : Prop :=
  (((1 : Int32) = 0 → narrow .byte (.int 1) = .int 1 ∧ post 1 M N) ∧ (¬ (1 : Int32) = 0 → narrow .byte (.int 0) = .int 0 ∧ post 0 M N))
set_option maxRecDepth 10000 in
theorem k_J0_coder_7d493 {d : Nat} {dm : List am_C} {i : Nat} (hi : i < 2) {M : am_I} {N : am_N} {post : Int32 → am_I → am_N → Prop} (h : w_J0_coder_7d493 i M N post) : jg (d + 1) mJ0_coder_7d493 dm 0 [(0, .inr (.inr (9, i, 0)))] [] M N (am_pi post) := by
  refine j_scmp dJ0_coder_7d493_0 lkS_38 ?_
  refine j_if_eq (tgt := 13) dJ0_coder_7d493_3 (by decide) (fun hc => ?_) (fun hc => ?_)
  · replace h := h.1 hc
    refine j_iconst (v := 1) dJ0_coder_7d493_13 (by decide) ?_
    exact j_nret dJ0_coder_7d493_14 rfl h.1 ⟨_, rfl, h.2⟩
  · replace h := h.2 hc
    refine j_aload_n 0 dJ0_coder_7d493_6 rfl ?_
    refine j_scod hi dJ0_coder_7d493_7 lkS_15 ?_
    refine j_goto (tgt := 14) dJ0_coder_7d493_10 (by decide) ?_
    exact j_nret dJ0_coder_7d493_14 rfl h.1 ⟨_, rfl, h.2⟩
def w_J0_isLatin1_aae02 (i : Nat) (M : am_I) (N : am_N) (post : Int32 → am_I → am_N → Prop) : Prop :=
  (((1 : Int32) = 0 → post 0 M N) ∧ (¬ (1 : Int32) = 0 → ((¬ (0 : Int32) = 0 → post 0 M N) ∧ ((0 : Int32) = 0 → post 1 M N))))
set_option maxRecDepth 10000 in
theorem k_J0_isLatin1_aae02 {d : Nat} {dm : List am_C} {i : Nat} (hi : i < 2) {M : am_I} {N : am_N} {post : Int32 → am_I → am_N → Prop} (h : w_J0_isLatin1_aae02 i M N post) : jg (d + 1) mJ0_isLatin1_aae02 dm 0 [(0, .inr (.inr (9, i, 0)))] [] M N (am_pi post) := by
  refine j_scmp dJ0_isLatin1_aae02_0 lkS_38 ?_
  refine j_if_eq (tgt := 17) dJ0_isLatin1_aae02_3 (by decide) (fun hc => ?_) (fun hc => ?_)
  · replace h := h.1 hc
    refine j_iconst (v := 0) dJ0_isLatin1_aae02_17 (by decide) ?_
    exact j_zret dJ0_isLatin1_aae02_18 rfl (Or.inl rfl) ⟨_, rfl, h⟩
  · replace h := h.2 hc
    refine j_aload_n 0 dJ0_isLatin1_aae02_6 rfl ?_
    refine j_scod hi dJ0_isLatin1_aae02_7 lkS_15 ?_
    refine j_if_ne (tgt := 17) dJ0_isLatin1_aae02_10 (by decide) (fun hc => ?_) (fun hc => ?_)
    · replace h := h.1 hc
      refine j_iconst (v := 0) dJ0_isLatin1_aae02_17 (by decide) ?_
      exact j_zret dJ0_isLatin1_aae02_18 rfl (Or.inl rfl) ⟨_, rfl, h⟩
    · replace h := h.2 hc
      refine j_iconst (v := 1) dJ0_isLatin1_aae02_13 (by decide) ?_
      refine j_goto (tgt := 18) dJ0_isLatin1_aae02_14 (by decide) ?_
      exact j_zret dJ0_isLatin1_aae02_18 rfl (Or.inr rfl) ⟨_, rfl, h⟩
def w_J1_charAt_3b067 (i : Nat) (a1 : Int32) (M : am_I) (N : am_N) (post : Int32 → am_I → am_N → Prop) : Prop :=
  (¬ a1 < 0 ∧ a1 < (am_sl i)) ∧ vp_in a1 (am_slen.getD i 0) ∧ narrow .char (.int ((((am_sc i a1.toNatClampNeg) &&& 255).toUInt32 % 65536).toInt32)) = .int ((((am_sc i a1.toNatClampNeg) &&& 255).toUInt32 % 65536).toInt32) ∧ post ((((am_sc i a1.toNatClampNeg) &&& 255).toUInt32 % 65536).toInt32) M N
set_option maxRecDepth 10000 in
theorem k_J1_charAt_3b067 {d : Nat} {dm : List am_C} {i : Nat} (hi : i < 2) {a1 : Int32} {M : am_I} {N : am_N} {post : Int32 → am_I → am_N → Prop} (h : w_J1_charAt_3b067 i a1 M N post) : jg (d + 4) mJ1_charAt_3b067 dm 0 [(0, .inr (.inr (9, i, 1))), (1, .inl a1)] [] M N (am_pi post) := by
  refine j_iload_n 1 dJ1_charAt_3b067_0 rfl ?_
  refine j_aload_n 0 dJ1_charAt_3b067_1 rfl ?_
  refine j_slen hi dJ1_charAt_3b067_2 ?_
  obtain ⟨hq, h⟩ := h
  refine j_chk dJ1_charAt_3b067_3 rfl hq.1 hq.2 (Nat.le_of_ble_eq_true rfl) (by omega) ?_
  refine j_aload_n 0 dJ1_charAt_3b067_6 rfl ?_
  refine j_iload_n 1 dJ1_charAt_3b067_7 rfl ?_
  obtain ⟨hq, h⟩ := h
  refine j_sbyt hi dJ1_charAt_3b067_8 hq ?_
  refine j_sipush (v := 255) dJ1_charAt_3b067_9 (by decide) ?_
  refine j_iand dJ1_charAt_3b067_12 ?_
  refine j_i2c dJ1_charAt_3b067_13 ?_
  exact j_nret dJ1_charAt_3b067_14 rfl h.1 ⟨_, rfl, h.2⟩
def w_J1_canEncode_9a6ad (a1 : Int32) (M : am_I) (N : am_N) (post : Int32 → am_I → am_N → Prop) : Prop :=
  ((a1 < 0 → post 0 M N) ∧ (¬ a1 < 0 → ((255 < a1 → post 0 M N) ∧ (¬ 255 < a1 → post 1 M N))))
set_option maxRecDepth 10000 in
theorem k_J1_canEncode_9a6ad {d : Nat} {dm : List am_C}  {a1 : Int32} {M : am_I} {N : am_N} {post : Int32 → am_I → am_N → Prop} (h : w_J1_canEncode_9a6ad a1 M N post) : jg (d + 1) mJ1_canEncode_9a6ad dm 0 [(0, .inl a1)] [] M N (am_pi post) := by
  refine j_iload_n 0 dJ1_canEncode_9a6ad_0 rfl ?_
  refine j_if_lt (tgt := 15) dJ1_canEncode_9a6ad_1 (by decide) (fun hc => ?_) (fun hc => ?_)
  · replace h := h.1 hc
    refine j_iconst (v := 0) dJ1_canEncode_9a6ad_15 (by decide) ?_
    exact j_zret dJ1_canEncode_9a6ad_16 rfl (Or.inl rfl) ⟨_, rfl, h⟩
  · replace h := h.2 hc
    refine j_iload_n 0 dJ1_canEncode_9a6ad_4 rfl ?_
    refine j_sipush (v := 255) dJ1_canEncode_9a6ad_5 (by decide) ?_
    refine j_icmp_gt (tgt := 15) dJ1_canEncode_9a6ad_8 (by decide) (fun hc => ?_) (fun hc => ?_)
    · replace h := h.1 hc
      refine j_iconst (v := 0) dJ1_canEncode_9a6ad_15 (by decide) ?_
      exact j_zret dJ1_canEncode_9a6ad_16 rfl (Or.inl rfl) ⟨_, rfl, h⟩
    · replace h := h.2 hc
      refine j_iconst (v := 1) dJ1_canEncode_9a6ad_11 (by decide) ?_
      refine j_goto (tgt := 16) dJ1_canEncode_9a6ad_12 (by decide) ?_
      exact j_zret dJ1_canEncode_9a6ad_16 rfl (Or.inr rfl) ⟨_, rfl, h⟩
def w_J1_indexOfChar_4cfef_p7_b (i : Nat) (post : Int32 → am_I → am_N → Prop) (zk7 : Int32 → Int32 → Int32 → am_I → am_N → Prop) (l3 : Int32) (l4 : Int32) (l5 : Int32) (M : am_I) (N : am_N) : Prop :=
  ((l3 ≤ l5 → post (-1) M N) ∧ (¬ l3 ≤ l5 → vp_in l5 (am_slen.getD i 0) ∧ ((¬ (am_sc i l5.toNatClampNeg) = l4 → zk7 l3 l4 (l5 + 1) M N) ∧ ((am_sc i l5.toNatClampNeg) = l4 → post l5 M N))))
noncomputable def w_J1_indexOfChar_4cfef_p7 (i : Nat) (post : Int32 → am_I → am_N → Prop) (n : Nat) : Int32 → Int32 → Int32 → am_I → am_N → Prop :=
  Nat.rec (motive := fun _ => Int32 → Int32 → Int32 → am_I → am_N → Prop) (fun _ _ _ _ _ => False) (fun _ zk => w_J1_indexOfChar_4cfef_p7_b i post zk) n
theorem w_J1_indexOfChar_4cfef_p7_s (i : Nat) (post : Int32 → am_I → am_N → Prop) (n : Nat) (l3 : Int32) (l4 : Int32) (l5 : Int32) (M : am_I) (N : am_N) : w_J1_indexOfChar_4cfef_p7 i post (n + 1) l3 l4 l5 M N = w_J1_indexOfChar_4cfef_p7_b i post (w_J1_indexOfChar_4cfef_p7 i post n) l3 l4 l5 M N := rfl
set_option maxRecDepth 10000 in
theorem k_J1_indexOfChar_4cfef_p7 {d : Nat} {dm : List am_C} {i : Nat} (hi : i < 2) {post : Int32 → am_I → am_N → Prop} : ∀ (n : Nat) (l3 : Int32) (l4 : Int32) (l5 : Int32) (M : am_I) (N : am_N), w_J1_indexOfChar_4cfef_p7 i post n l3 l4 l5 M N → jg (d + 1) mJ1_indexOfChar_4cfef dm 7 [(0, .inr (.inr (9, i, 1))), (3, .inl l3), (4, .inl l4), (5, .inl l5)] [] M N (am_pi post) := by
  intro n
  induction n with
  | zero => intro l3 l4 l5 M N h; exact h.elim
  | succ n zih =>
    intro l3 l4 l5 M N h
    replace h : w_J1_indexOfChar_4cfef_p7_b i post (w_J1_indexOfChar_4cfef_p7 i post n) l3 l4 l5 M N := h
    refine j_iload 3 dJ1_indexOfChar_4cfef_7 rfl ?_
    refine j_iload_n 1 dJ1_indexOfChar_4cfef_9 rfl ?_
    refine j_icmp_ge (tgt := 31) dJ1_indexOfChar_4cfef_10 (by decide) (fun hc => ?_) (fun hc => ?_)
    · replace h := h.1 hc
      refine j_iconst (v := (-1)) dJ1_indexOfChar_4cfef_31 (by decide) ?_
      exact j_iret dJ1_indexOfChar_4cfef_32 rfl ⟨_, rfl, h⟩
    · replace h := h.2 hc
      refine j_aload_n 0 dJ1_indexOfChar_4cfef_13 rfl ?_
      refine j_iload 3 dJ1_indexOfChar_4cfef_14 rfl ?_
      obtain ⟨hq, h⟩ := h
      refine j_sbyt hi dJ1_indexOfChar_4cfef_16 hq ?_
      refine j_iload 2 dJ1_indexOfChar_4cfef_17 rfl ?_
      refine j_icmp_ne (tgt := 25) dJ1_indexOfChar_4cfef_19 (by decide) (fun hc => ?_) (fun hc => ?_)
      · replace h := h.1 hc
        refine j_iinc 3 dJ1_indexOfChar_4cfef_25 rfl rfl (by decide) rfl ?_
        refine j_goto (tgt := 7) dJ1_indexOfChar_4cfef_28 (by decide) ?_
        refine j_sub [1, 2, 3, 0] rfl ?_
        exact zih _ _ _ _ _ h
      · replace h := h.2 hc
        refine j_iload 3 dJ1_indexOfChar_4cfef_22 rfl ?_
        exact j_iret dJ1_indexOfChar_4cfef_24 rfl ⟨_, rfl, h⟩
def w_J1_indexOfChar_4cfef (i : Nat) (a1 : Int32) (a2 : Int32) (a3 : Int32) (M : am_I) (N : am_N) (post : Int32 → am_I → am_N → Prop) : Prop :=
  ∀ zv1 : Int32, zv1 = a1.toInt8.toInt32 → ∃ n, w_J1_indexOfChar_4cfef_p7 i post n a3 zv1 a2 M N
set_option maxRecDepth 10000 in
theorem k_J1_indexOfChar_4cfef {d : Nat} {dm : List am_C} {i : Nat} (hi : i < 2) {a1 : Int32} {a2 : Int32} {a3 : Int32} {M : am_I} {N : am_N} {post : Int32 → am_I → am_N → Prop} (h : w_J1_indexOfChar_4cfef i a1 a2 a3 M N post) : jg (d + 1) mJ1_indexOfChar_4cfef dm 0 [(0, .inr (.inr (9, i, 1))), (1, .inl a1), (2, .inl a2), (3, .inl a3)] [] M N (am_pi post) := by
  refine j_iload_n 1 dJ1_indexOfChar_4cfef_0 rfl ?_
  refine j_i2b dJ1_indexOfChar_4cfef_1 ?_
  refine j_topi (fun zv1 hzv1 => ?_)
  replace h := h zv1 hzv1
  refine j_istore dJ1_indexOfChar_4cfef_2 (by decide) rfl ?_
  refine j_iload_n 3 dJ1_indexOfChar_4cfef_4 rfl ?_
  refine j_istore dJ1_indexOfChar_4cfef_5 (by decide) rfl ?_
  refine j_sub [2, 5, 1, 0] rfl ?_
  obtain ⟨n, h⟩ := h
  exact k_J1_indexOfChar_4cfef_p7 hi n _ _ _ _ _ h
def w_J0_length_8abf5 (i : Nat) (M : am_I) (N : am_N) (post : Int32 → am_I → am_N → Prop) : Prop :=
  w_J0_coder_7d493 i M N (fun zr1 zM2 zN3 => post ((am_sl i) >>> (zr1 &&& 31)) zM2 zN3)
set_option maxRecDepth 10000 in
theorem k_J0_length_8abf5 {d : Nat} {dm : List am_C} {i : Nat} (hi : i < 2) {M : am_I} {N : am_N} {post : Int32 → am_I → am_N → Prop} (h : w_J0_length_8abf5 i M N post) : jg (d + 2) mJ0_length_8abf5 dm 0 [(0, .inr (.inr (9, i, 0)))] [] M N (am_pi post) := by
  refine j_aload_n 0 dJ0_length_8abf5_0 rfl ?_
  refine j_sval hi dJ0_length_8abf5_1 lkS_9 ?_
  refine j_slen hi dJ0_length_8abf5_4 ?_
  refine j_aload_n 0 dJ0_length_8abf5_5 rfl ?_
  refine j_invT (As := []) hi dJ0_length_8abf5_6 msRJ0_335 rfl mbJ0_coder_7d493 rfl rfl (Nat.le_of_ble_eq_true rfl) (Nat.le_of_ble_eq_true rfl) (by omega) (k_J0_coder_7d493 (d := d + 0) hi h) ?_
  rintro _ zM2 zN3 ⟨zr1, rfl, h⟩
  refine j_ishr dJ0_length_8abf5_9 ?_
  exact j_iret dJ0_length_8abf5_10 rfl ⟨_, rfl, h⟩
def w_J0_charAt_5068e (i : Nat) (a1 : Int32) (M : am_I) (N : am_N) (post : Int32 → am_I → am_N → Prop) : Prop :=
  w_J0_isLatin1_aae02 i M N (fun zr1 zM2 zN3 => ((zr1 = 0 → False) ∧ (¬ zr1 = 0 → w_J1_charAt_3b067 i a1 zM2 zN3 (fun zr4 zM5 zN6 => narrow .char (.int zr4) = .int zr4 ∧ post zr4 zM5 zN6))))
set_option maxRecDepth 10000 in
theorem k_J0_charAt_5068e {d : Nat} {dm : List am_C} {i : Nat} (hi : i < 2) {a1 : Int32} {M : am_I} {N : am_N} {post : Int32 → am_I → am_N → Prop} (h : w_J0_charAt_5068e i a1 M N post) : jg (d + 5) mJ0_charAt_5068e dm 0 [(0, .inr (.inr (9, i, 0))), (1, .inl a1)] [] M N (am_pi post) := by
  refine j_aload_n 0 dJ0_charAt_5068e_0 rfl ?_
  refine j_invT (As := []) hi dJ0_charAt_5068e_1 msRJ0_492 rfl mbJ0_isLatin1_aae02 rfl rfl (Nat.le_of_ble_eq_true rfl) (Nat.le_of_ble_eq_true rfl) (by omega) (k_J0_isLatin1_aae02 (d := d + 3) hi h) ?_
  rintro _ zM2 zN3 ⟨zr1, rfl, h⟩
  refine j_if_eq (tgt := 16) dJ0_charAt_5068e_4 (by decide) (fun hc => ?_) (fun hc => ?_)
  · replace h := h.1 hc
    refine j_aload_n 0 dJ0_charAt_5068e_16 rfl ?_
    refine j_sval hi dJ0_charAt_5068e_17 lkS_9 ?_
    refine j_iload_n 1 dJ0_charAt_5068e_20 rfl ?_
    exact h.elim
  · replace h := h.2 hc
    refine j_aload_n 0 dJ0_charAt_5068e_7 rfl ?_
    refine j_sval hi dJ0_charAt_5068e_8 lkS_9 ?_
    refine j_iload_n 1 dJ0_charAt_5068e_11 rfl ?_
    refine j_invS (As := [.inr (.inr (9, i, 1)), .inl a1]) dJ0_charAt_5068e_12 msRJ0_495 mbJ1_charAt_3b067 rfl rfl (Nat.le_of_ble_eq_true rfl) (Nat.le_of_ble_eq_true rfl) (by omega) (k_J1_charAt_3b067 (d := d + 0) hi h) ?_
    rintro _ zM5 zN6 ⟨zr4, rfl, h⟩
    exact j_nret dJ0_charAt_5068e_15 rfl h.1 ⟨_, rfl, h.2⟩
def w_J1_indexOf_4cfef (i : Nat) (a1 : Int32) (a2 : Int32) (a3 : Int32) (M : am_I) (N : am_N) (post : Int32 → am_I → am_N → Prop) : Prop :=
  w_J1_canEncode_9a6ad a1 M N (fun zr1 zM2 zN3 => ((¬ zr1 = 0 → w_J9_max_7cf53 a2 0 zM2 zN3 (fun zr4 zM5 zN6 => w_J9_min_7cf53 a3 (am_sl i) zM5 zN6 (fun zr7 zM8 zN9 => ((zr4 < zr7 → w_J1_indexOfChar_4cfef i a1 zr4 zr7 zM8 zN9 (fun zr10 zM11 zN12 => post zr10 zM11 zN12)) ∧ (¬ zr4 < zr7 → post (-1) zM8 zN9))))) ∧ (zr1 = 0 → post (-1) zM2 zN3)))
set_option maxRecDepth 10000 in
theorem k_J1_indexOf_4cfef {d : Nat} {dm : List am_C} {i : Nat} (hi : i < 2) {a1 : Int32} {a2 : Int32} {a3 : Int32} {M : am_I} {N : am_N} {post : Int32 → am_I → am_N → Prop} (h : w_J1_indexOf_4cfef i a1 a2 a3 M N post) : jg (d + 2) mJ1_indexOf_4cfef dm 0 [(0, .inr (.inr (9, i, 1))), (1, .inl a1), (2, .inl a2), (3, .inl a3)] [] M N (am_pi post) := by
  refine j_iload_n 1 dJ1_indexOf_4cfef_0 rfl ?_
  refine j_invS (As := [.inl a1]) dJ1_indexOf_4cfef_1 msRJ1_88 mbJ1_canEncode_9a6ad rfl rfl (Nat.le_of_ble_eq_true rfl) (Nat.le_of_ble_eq_true rfl) (by omega) (k_J1_canEncode_9a6ad (d := d + 0)  h) ?_
  rintro _ zM2 zN3 ⟨zr1, rfl, h⟩
  refine j_if_ne (tgt := 9) dJ1_indexOf_4cfef_4 (by decide) (fun hc => ?_) (fun hc => ?_)
  · replace h := h.1 hc
    refine j_iload_n 2 dJ1_indexOf_4cfef_9 rfl ?_
    refine j_iconst (v := 0) dJ1_indexOf_4cfef_10 (by decide) ?_
    refine j_invS (As := [.inl a2, .inl 0]) dJ1_indexOf_4cfef_11 msRJ1_92 mbJ9_max_7cf53 rfl rfl (Nat.le_of_ble_eq_true rfl) (Nat.le_of_ble_eq_true rfl) (by omega) (k_J9_max_7cf53 (d := d + 0)  h) ?_
    rintro _ zM5 zN6 ⟨zr4, rfl, h⟩
    refine j_istore_n dJ1_indexOf_4cfef_14 (by decide) rfl ?_
    refine j_iload_n 3 dJ1_indexOf_4cfef_15 rfl ?_
    refine j_aload_n 1 dJ1_indexOf_4cfef_16 rfl ?_
    refine j_slen hi dJ1_indexOf_4cfef_17 ?_
    refine j_invS (As := [.inl a3, .inl (am_sl i)]) dJ1_indexOf_4cfef_18 msRJ1_38 mbJ9_min_7cf53 rfl rfl (Nat.le_of_ble_eq_true rfl) (Nat.le_of_ble_eq_true rfl) (by omega) (k_J9_min_7cf53 (d := d + 0)  h) ?_
    rintro _ zM8 zN9 ⟨zr7, rfl, h⟩
    refine j_istore_n dJ1_indexOf_4cfef_21 (by decide) rfl ?_
    refine j_iload_n 1 dJ1_indexOf_4cfef_22 rfl ?_
    refine j_iload_n 0 dJ1_indexOf_4cfef_23 rfl ?_
    refine j_icmp_lt (tgt := 29) dJ1_indexOf_4cfef_24 (by decide) (fun hc => ?_) (fun hc => ?_)
    · replace h := h.1 hc
      refine j_aload_n 2 dJ1_indexOf_4cfef_29 rfl ?_
      refine j_iload_n 3 dJ1_indexOf_4cfef_30 rfl ?_
      refine j_iload_n 1 dJ1_indexOf_4cfef_31 rfl ?_
      refine j_iload_n 0 dJ1_indexOf_4cfef_32 rfl ?_
      refine j_invS (As := [.inr (.inr (9, i, 1)), .inl a1, .inl zr4, .inl zr7]) dJ1_indexOf_4cfef_33 msRJ1_95 mbJ1_indexOfChar_4cfef rfl rfl (Nat.le_of_ble_eq_true rfl) (Nat.le_of_ble_eq_true rfl) (by omega) (k_J1_indexOfChar_4cfef (d := d + 0) hi h) ?_
      rintro _ zM11 zN12 ⟨zr10, rfl, h⟩
      exact j_iret dJ1_indexOf_4cfef_36 rfl ⟨_, rfl, h⟩
    · replace h := h.2 hc
      refine j_iconst (v := (-1)) dJ1_indexOf_4cfef_27 (by decide) ?_
      exact j_iret dJ1_indexOf_4cfef_28 rfl ⟨_, rfl, h⟩
  · replace h := h.2 hc
    refine j_iconst (v := (-1)) dJ1_indexOf_4cfef_7 (by decide) ?_
    exact j_iret dJ1_indexOf_4cfef_8 rfl ⟨_, rfl, h⟩
def w_J0_indexOf_7cf53 (i : Nat) (a1 : Int32) (a2 : Int32) (M : am_I) (N : am_N) (post : Int32 → am_I → am_N → Prop) : Prop :=
  w_J0_isLatin1_aae02 i M N (fun zr1 zM2 zN3 => ((zr1 = 0 → w_J0_length_8abf5 i zM2 zN3 (fun zr4 zM5 zN6 => False)) ∧ (¬ zr1 = 0 → w_J0_length_8abf5 i zM2 zN3 (fun zr7 zM8 zN9 => w_J1_indexOf_4cfef i a1 a2 zr7 zM8 zN9 (fun zr10 zM11 zN12 => post zr10 zM11 zN12)))))
set_option maxRecDepth 10000 in
theorem k_J0_indexOf_7cf53 {d : Nat} {dm : List am_C} {i : Nat} (hi : i < 2) {a1 : Int32} {a2 : Int32} {M : am_I} {N : am_N} {post : Int32 → am_I → am_N → Prop} (h : w_J0_indexOf_7cf53 i a1 a2 M N post) : jg (d + 3) mJ0_indexOf_7cf53 dm 0 [(0, .inr (.inr (9, i, 0))), (1, .inl a1), (2, .inl a2)] [] M N (am_pi post) := by
  refine j_aload_n 0 dJ0_indexOf_7cf53_0 rfl ?_
  refine j_invT (As := []) hi dJ0_indexOf_7cf53_1 msRJ0_492 rfl mbJ0_isLatin1_aae02 rfl rfl (Nat.le_of_ble_eq_true rfl) (Nat.le_of_ble_eq_true rfl) (by omega) (k_J0_isLatin1_aae02 (d := d + 1) hi h) ?_
  rintro _ zM2 zN3 ⟨zr1, rfl, h⟩
  refine j_if_eq (tgt := 23) dJ0_indexOf_7cf53_4 (by decide) (fun hc => ?_) (fun hc => ?_)
  · replace h := h.1 hc
    refine j_aload_n 0 dJ0_indexOf_7cf53_23 rfl ?_
    refine j_sval hi dJ0_indexOf_7cf53_24 lkS_9 ?_
    refine j_iload_n 1 dJ0_indexOf_7cf53_27 rfl ?_
    refine j_iload_n 2 dJ0_indexOf_7cf53_28 rfl ?_
    refine j_aload_n 0 dJ0_indexOf_7cf53_29 rfl ?_
    refine j_invT (As := []) hi dJ0_indexOf_7cf53_30 msRJ0_505 rfl mbJ0_length_8abf5 rfl rfl (Nat.le_of_ble_eq_true rfl) (Nat.le_of_ble_eq_true rfl) (by omega) (k_J0_length_8abf5 (d := d + 0) hi h) ?_
    rintro _ zM5 zN6 ⟨zr4, rfl, h⟩
    exact h.elim
  · replace h := h.2 hc
    refine j_aload_n 0 dJ0_indexOf_7cf53_7 rfl ?_
    refine j_sval hi dJ0_indexOf_7cf53_8 lkS_9 ?_
    refine j_iload_n 1 dJ0_indexOf_7cf53_11 rfl ?_
    refine j_iload_n 2 dJ0_indexOf_7cf53_12 rfl ?_
    refine j_aload_n 0 dJ0_indexOf_7cf53_13 rfl ?_
    refine j_invT (As := []) hi dJ0_indexOf_7cf53_14 msRJ0_505 rfl mbJ0_length_8abf5 rfl rfl (Nat.le_of_ble_eq_true rfl) (Nat.le_of_ble_eq_true rfl) (by omega) (k_J0_length_8abf5 (d := d + 0) hi h) ?_
    rintro _ zM8 zN9 ⟨zr7, rfl, h⟩
    refine j_invS (As := [.inr (.inr (9, i, 1)), .inl a1, .inl a2, .inl zr7]) dJ0_indexOf_7cf53_17 msRJ0_637 mbJ1_indexOf_4cfef rfl rfl (Nat.le_of_ble_eq_true rfl) (Nat.le_of_ble_eq_true rfl) (by omega) (k_J1_indexOf_4cfef (d := d + 0) hi h) ?_
    rintro _ zM11 zN12 ⟨zr10, rfl, h⟩
    refine j_goto (tgt := 36) dJ0_indexOf_7cf53_20 (by decide) ?_
    exact j_iret dJ0_indexOf_7cf53_36 rfl ⟨_, rfl, h⟩
def w_J0_indexOf_0f7a4 (i : Nat) (a1 : Int32) (M : am_I) (N : am_N) (post : Int32 → am_I → am_N → Prop) : Prop :=
  w_J0_indexOf_7cf53 i a1 0 M N (fun zr1 zM2 zN3 => post zr1 zM2 zN3)
set_option maxRecDepth 10000 in
theorem k_J0_indexOf_0f7a4 {d : Nat} {dm : List am_C} {i : Nat} (hi : i < 2) {a1 : Int32} {M : am_I} {N : am_N} {post : Int32 → am_I → am_N → Prop} (h : w_J0_indexOf_0f7a4 i a1 M N post) : jg (d + 4) mJ0_indexOf_0f7a4 dm 0 [(0, .inr (.inr (9, i, 0))), (1, .inl a1)] [] M N (am_pi post) := by
  refine j_aload_n 0 dJ0_indexOf_0f7a4_0 rfl ?_
  refine j_iload_n 1 dJ0_indexOf_0f7a4_1 rfl ?_
  refine j_iconst (v := 0) dJ0_indexOf_0f7a4_2 (by decide) ?_
  refine j_invT (As := [.inl a1, .inl 0]) hi dJ0_indexOf_0f7a4_3 msRJ0_633 rfl mbJ0_indexOf_7cf53 rfl rfl (Nat.le_of_ble_eq_true rfl) (Nat.le_of_ble_eq_true rfl) (by omega) (k_J0_indexOf_7cf53 (d := d + 0) hi h) ?_
  rintro _ zM2 zN3 ⟨zr1, rfl, h⟩
  exact j_iret dJ0_indexOf_0f7a4_6 rfl ⟨_, rfl, h⟩
def w_X11_within (a1 : Int32) (a2 : Int32) (a3 : Int32) (M : am_I) (N : am_N) (post : Int32 → am_I → am_N → Prop) : Prop :=
  ((a1 < a2 → post 0 M N) ∧ (¬ a1 < a2 → ((a3 < a1 → post 0 M N) ∧ (¬ a3 < a1 → post 1 M N))))
set_option maxRecDepth 10000 in
theorem k_X11_within {d : Nat} {dm : List am_C}  {a1 : Int32} {a2 : Int32} {a3 : Int32} {M : am_I} {N : am_N} {post : Int32 → am_I → am_N → Prop} (h : w_X11_within a1 a2 a3 M N post) : jg (d + 1) mX11_within dm 0 [(0, .inl a1), (1, .inl a2), (2, .inl a3)] [] M N (am_pi post) := by
  refine j_iload_n 0 dX11_within_0 rfl ?_
  refine j_iload_n 1 dX11_within_1 rfl ?_
  refine j_icmp_lt (tgt := 14) dX11_within_2 (by decide) (fun hc => ?_) (fun hc => ?_)
  · replace h := h.1 hc
    refine j_iconst (v := 0) dX11_within_14 (by decide) ?_
    exact j_zret dX11_within_15 rfl (Or.inl rfl) ⟨_, rfl, h⟩
  · replace h := h.2 hc
    refine j_iload_n 0 dX11_within_5 rfl ?_
    refine j_iload_n 2 dX11_within_6 rfl ?_
    refine j_icmp_gt (tgt := 14) dX11_within_7 (by decide) (fun hc => ?_) (fun hc => ?_)
    · replace h := h.1 hc
      refine j_iconst (v := 0) dX11_within_14 (by decide) ?_
      exact j_zret dX11_within_15 rfl (Or.inl rfl) ⟨_, rfl, h⟩
    · replace h := h.2 hc
      refine j_iconst (v := 1) dX11_within_10 (by decide) ?_
      refine j_goto (tgt := 15) dX11_within_11 (by decide) ?_
      exact j_zret dX11_within_15 rfl (Or.inr rfl) ⟨_, rfl, h⟩
def w_X11_isCell (a1 : Int32) (M : am_I) (N : am_N) (post : Int32 → am_I → am_N → Prop) : Prop :=
  ((a1 < 0 → post 0 M N) ∧ (¬ a1 < 0 → ((64 ≤ a1 → post 0 M N) ∧ (¬ 64 ≤ a1 → post 1 M N))))
set_option maxRecDepth 10000 in
theorem k_X11_isCell {d : Nat} {dm : List am_C}  {a1 : Int32} {M : am_I} {N : am_N} {post : Int32 → am_I → am_N → Prop} (h : w_X11_isCell a1 M N post) : jg (d + 1) mX11_isCell dm 0 [(0, .inl a1)] [] M N (am_pi post) := by
  refine j_iload_n 0 dX11_isCell_0 rfl ?_
  refine j_if_lt (tgt := 14) dX11_isCell_1 (by decide) (fun hc => ?_) (fun hc => ?_)
  · replace h := h.1 hc
    refine j_iconst (v := 0) dX11_isCell_14 (by decide) ?_
    exact j_zret dX11_isCell_15 rfl (Or.inl rfl) ⟨_, rfl, h⟩
  · replace h := h.2 hc
    refine j_iload_n 0 dX11_isCell_4 rfl ?_
    refine j_bipush (v := 64) dX11_isCell_5 (by decide) ?_
    refine j_icmp_ge (tgt := 14) dX11_isCell_7 (by decide) (fun hc => ?_) (fun hc => ?_)
    · replace h := h.1 hc
      refine j_iconst (v := 0) dX11_isCell_14 (by decide) ?_
      exact j_zret dX11_isCell_15 rfl (Or.inl rfl) ⟨_, rfl, h⟩
    · replace h := h.2 hc
      refine j_iconst (v := 1) dX11_isCell_10 (by decide) ?_
      refine j_goto (tgt := 15) dX11_isCell_11 (by decide) ?_
      exact j_zret dX11_isCell_15 rfl (Or.inr rfl) ⟨_, rfl, h⟩
def w_X11_isOdds (a1 : Int32) (M : am_I) (N : am_N) (post : Int32 → am_I → am_N → Prop) : Prop :=
  w_X11_within a1 1 99 M N (fun zr1 zM2 zN3 => (zr1 = 0 ∨ zr1 = 1) ∧ post zr1 zM2 zN3)
set_option maxRecDepth 10000 in
theorem k_X11_isOdds {d : Nat} {dm : List am_C}  {a1 : Int32} {M : am_I} {N : am_N} {post : Int32 → am_I → am_N → Prop} (h : w_X11_isOdds a1 M N post) : jg (d + 2) mX11_isOdds dm 0 [(0, .inl a1)] [] M N (am_pi post) := by
  refine j_iload_n 0 dX11_isOdds_0 rfl ?_
  refine j_iconst (v := 1) dX11_isOdds_1 (by decide) ?_
  refine j_bipush (v := 99) dX11_isOdds_2 (by decide) ?_
  refine j_invS (As := [.inl a1, .inl 1, .inl 99]) dX11_isOdds_4 msRX11_71 mbX11_within rfl rfl (Nat.le_of_ble_eq_true rfl) (Nat.le_of_ble_eq_true rfl) (by omega) (k_X11_within (d := d + 0)  h) ?_
  rintro _ zM2 zN3 ⟨zr1, rfl, h⟩
  exact j_zret dX11_isOdds_7 rfl h.1 ⟨_, rfl, h.2⟩
def w_X11_areMarks (a1 : Int32) (M : am_I) (N : am_N) (post : Int32 → am_I → am_N → Prop) : Prop :=
  w_X11_within a1 0 15 M N (fun zr1 zM2 zN3 => (zr1 = 0 ∨ zr1 = 1) ∧ post zr1 zM2 zN3)
set_option maxRecDepth 10000 in
theorem k_X11_areMarks {d : Nat} {dm : List am_C}  {a1 : Int32} {M : am_I} {N : am_N} {post : Int32 → am_I → am_N → Prop} (h : w_X11_areMarks a1 M N post) : jg (d + 2) mX11_areMarks dm 0 [(0, .inl a1)] [] M N (am_pi post) := by
  refine j_iload_n 0 dX11_areMarks_0 rfl ?_
  refine j_iconst (v := 0) dX11_areMarks_1 (by decide) ?_
  refine j_bipush (v := 15) dX11_areMarks_2 (by decide) ?_
  refine j_invS (As := [.inl a1, .inl 0, .inl 15]) dX11_areMarks_4 msRX11_71 mbX11_within rfl rfl (Nat.le_of_ble_eq_true rfl) (Nat.le_of_ble_eq_true rfl) (by omega) (k_X11_within (d := d + 0)  h) ?_
  rintro _ zM2 zN3 ⟨zr1, rfl, h⟩
  exact j_zret dX11_areMarks_7 rfl h.1 ⟨_, rfl, h.2⟩
def w_X11_isSetting (a1 : Int32) (a2 : Int32) (M : am_I) (N : am_N) (post : Int32 → am_I → am_N → Prop) : Prop :=
  ((a1 = 0 → w_X11_within a2 1 9999 M N (fun zr1 zM2 zN3 => (zr1 = 0 ∨ zr1 = 1) ∧ post zr1 zM2 zN3)) ∧ (a1 = 1 → w_X11_within a2 1 9999 M N (fun zr4 zM5 zN6 => (zr4 = 0 ∨ zr4 = 1) ∧ post zr4 zM5 zN6)) ∧ (a1 = 2 → w_X11_within a2 0 100 M N (fun zr7 zM8 zN9 => (zr7 = 0 ∨ zr7 = 1) ∧ post zr7 zM8 zN9)) ∧ (a1 = 3 → w_X11_within a2 0 14 M N (fun zr10 zM11 zN12 => (zr10 = 0 ∨ zr10 = 1) ∧ post zr10 zM11 zN12)) ∧ (¬ a1 = 0 → ¬ a1 = 1 → ¬ a1 = 2 → ¬ a1 = 3 → post 0 M N))
set_option maxRecDepth 10000 in
theorem k_X11_isSetting {d : Nat} {dm : List am_C}  {a1 : Int32} {a2 : Int32} {M : am_I} {N : am_N} {post : Int32 → am_I → am_N → Prop} (h : w_X11_isSetting a1 a2 M N post) : jg (d + 2) mX11_isSetting dm 0 [(0, .inl a1), (1, .inl a2)] [] M N (am_pi post) := by
  refine j_iload_n 0 dX11_isSetting_0 rfl ?_
  by_cases hs0 : a1 = 0
  · replace h := h.1 hs0
    refine j_tabK (k := 0) (tgt := 32) (off := 31) dX11_isSetting_1 hs0 (by decide) (by decide) (by decide) (by decide) ?_
    refine j_iload_n 1 dX11_isSetting_32 rfl ?_
    refine j_iconst (v := 1) dX11_isSetting_33 (by decide) ?_
    refine j_sipush (v := 9999) dX11_isSetting_34 (by decide) ?_
    refine j_invS (As := [.inl a2, .inl 1, .inl 9999]) dX11_isSetting_37 msRX11_71 mbX11_within rfl rfl (Nat.le_of_ble_eq_true rfl) (Nat.le_of_ble_eq_true rfl) (by omega) (k_X11_within (d := d + 0)  h) ?_
    rintro _ zM2 zN3 ⟨zr1, rfl, h⟩
    exact j_zret dX11_isSetting_40 rfl h.1 ⟨_, rfl, h.2⟩
  by_cases hs1 : a1 = 1
  · replace h := h.2.1 hs1
    refine j_tabK (k := 1) (tgt := 41) (off := 40) dX11_isSetting_1 hs1 (by decide) (by decide) (by decide) (by decide) ?_
    refine j_iload_n 1 dX11_isSetting_41 rfl ?_
    refine j_iconst (v := 1) dX11_isSetting_42 (by decide) ?_
    refine j_sipush (v := 9999) dX11_isSetting_43 (by decide) ?_
    refine j_invS (As := [.inl a2, .inl 1, .inl 9999]) dX11_isSetting_46 msRX11_71 mbX11_within rfl rfl (Nat.le_of_ble_eq_true rfl) (Nat.le_of_ble_eq_true rfl) (by omega) (k_X11_within (d := d + 0)  h) ?_
    rintro _ zM5 zN6 ⟨zr4, rfl, h⟩
    exact j_zret dX11_isSetting_49 rfl h.1 ⟨_, rfl, h.2⟩
  by_cases hs2 : a1 = 2
  · replace h := h.2.2.1 hs2
    refine j_tabK (k := 2) (tgt := 50) (off := 49) dX11_isSetting_1 hs2 (by decide) (by decide) (by decide) (by decide) ?_
    refine j_iload_n 1 dX11_isSetting_50 rfl ?_
    refine j_iconst (v := 0) dX11_isSetting_51 (by decide) ?_
    refine j_bipush (v := 100) dX11_isSetting_52 (by decide) ?_
    refine j_invS (As := [.inl a2, .inl 0, .inl 100]) dX11_isSetting_54 msRX11_71 mbX11_within rfl rfl (Nat.le_of_ble_eq_true rfl) (Nat.le_of_ble_eq_true rfl) (by omega) (k_X11_within (d := d + 0)  h) ?_
    rintro _ zM8 zN9 ⟨zr7, rfl, h⟩
    exact j_zret dX11_isSetting_57 rfl h.1 ⟨_, rfl, h.2⟩
  by_cases hs3 : a1 = 3
  · replace h := h.2.2.2.1 hs3
    refine j_tabK (k := 3) (tgt := 58) (off := 57) dX11_isSetting_1 hs3 (by decide) (by decide) (by decide) (by decide) ?_
    refine j_iload_n 1 dX11_isSetting_58 rfl ?_
    refine j_iconst (v := 0) dX11_isSetting_59 (by decide) ?_
    refine j_bipush (v := 14) dX11_isSetting_60 (by decide) ?_
    refine j_invS (As := [.inl a2, .inl 0, .inl 14]) dX11_isSetting_62 msRX11_71 mbX11_within rfl rfl (Nat.le_of_ble_eq_true rfl) (Nat.le_of_ble_eq_true rfl) (by omega) (k_X11_within (d := d + 0)  h) ?_
    rintro _ zM11 zN12 ⟨zr10, rfl, h⟩
    exact j_zret dX11_isSetting_65 rfl h.1 ⟨_, rfl, h.2⟩
  replace h := h.2.2.2.2 hs0 hs1 hs2 hs3
  refine j_tableOut (tgt := 66) dX11_isSetting_1 (am_sw0 (n := 3) (fun k hk => match k, hk with | 0, _ => hs0 | 1, _ => hs1 | 2, _ => hs2 | 3, _ => hs3 | k + 4, hk => absurd hk (by omega))) (by decide) ?_
  refine j_iconst (v := 0) dX11_isSetting_66 (by decide) ?_
  exact j_zret dX11_isSetting_67 rfl (Or.inl rfl) ⟨_, rfl, h⟩
def w_X11_beside (a1 : Int32) (a2 : Int32) (M : am_I) (N : am_N) (post : Int32 → am_I → am_N → Prop) : Prop :=
  ((a2 = 0 → ((a1 < 8 → post (-1) M N) ∧ (¬ a1 < 8 → post (a1 - 8) M N))) ∧ (a2 = 1 → (((am_rem a1 8) ≤ 0 → post (-1) M N) ∧ (¬ (am_rem a1 8) ≤ 0 → post (a1 - 1) M N))) ∧ (a2 = 2 → ((7 ≤ (am_rem a1 8) → post (-1) M N) ∧ (¬ 7 ≤ (am_rem a1 8) → post (a1 + 1) M N))) ∧ (¬ a2 = 0 → ¬ a2 = 1 → ¬ a2 = 2 → ((64 ≤ (a1 + 8) → post (-1) M N) ∧ (¬ 64 ≤ (a1 + 8) → post (a1 + 8) M N))))
set_option maxRecDepth 10000 in
theorem k_X11_beside {d : Nat} {dm : List am_C}  {a1 : Int32} {a2 : Int32} {M : am_I} {N : am_N} {post : Int32 → am_I → am_N → Prop} (h : w_X11_beside a1 a2 M N post) : jg (d + 1) mX11_beside dm 0 [(0, .inl a1), (1, .inl a2)] [] M N (am_pi post) := by
  refine j_iload_n 1 dX11_beside_0 rfl ?_
  by_cases hs0 : a2 = 0
  · replace h := h.1 hs0
    refine j_tabK (k := 0) (tgt := 28) (off := 27) dX11_beside_1 hs0 (by decide) (by decide) (by decide) (by decide) ?_
    refine j_iload_n 0 dX11_beside_28 rfl ?_
    refine j_bipush (v := 8) dX11_beside_29 (by decide) ?_
    refine j_icmp_lt (tgt := 41) dX11_beside_31 (by decide) (fun hc => ?_) (fun hc => ?_)
    · replace h := h.1 hc
      refine j_iconst (v := (-1)) dX11_beside_41 (by decide) ?_
      exact j_iret dX11_beside_42 rfl ⟨_, rfl, h⟩
    · replace h := h.2 hc
      refine j_iload_n 0 dX11_beside_34 rfl ?_
      refine j_bipush (v := 8) dX11_beside_35 (by decide) ?_
      refine j_isub dX11_beside_37 ?_
      refine j_goto (tgt := 42) dX11_beside_38 (by decide) ?_
      exact j_iret dX11_beside_42 rfl ⟨_, rfl, h⟩
  by_cases hs1 : a2 = 1
  · replace h := h.2.1 hs1
    refine j_tabK (k := 1) (tgt := 43) (off := 42) dX11_beside_1 hs1 (by decide) (by decide) (by decide) (by decide) ?_
    refine j_iload_n 0 dX11_beside_43 rfl ?_
    refine j_bipush (v := 8) dX11_beside_44 (by decide) ?_
    refine j_irem dX11_beside_46 (by decide) ?_
    refine j_if_le (tgt := 56) dX11_beside_47 (by decide) (fun hc => ?_) (fun hc => ?_)
    · replace h := h.1 hc
      refine j_iconst (v := (-1)) dX11_beside_56 (by decide) ?_
      exact j_iret dX11_beside_57 rfl ⟨_, rfl, h⟩
    · replace h := h.2 hc
      refine j_iload_n 0 dX11_beside_50 rfl ?_
      refine j_iconst (v := 1) dX11_beside_51 (by decide) ?_
      refine j_isub dX11_beside_52 ?_
      refine j_goto (tgt := 57) dX11_beside_53 (by decide) ?_
      exact j_iret dX11_beside_57 rfl ⟨_, rfl, h⟩
  by_cases hs2 : a2 = 2
  · replace h := h.2.2.1 hs2
    refine j_tabK (k := 2) (tgt := 58) (off := 57) dX11_beside_1 hs2 (by decide) (by decide) (by decide) (by decide) ?_
    refine j_iload_n 0 dX11_beside_58 rfl ?_
    refine j_bipush (v := 8) dX11_beside_59 (by decide) ?_
    refine j_irem dX11_beside_61 (by decide) ?_
    refine j_bipush (v := 7) dX11_beside_62 (by decide) ?_
    refine j_icmp_ge (tgt := 73) dX11_beside_64 (by decide) (fun hc => ?_) (fun hc => ?_)
    · replace h := h.1 hc
      refine j_iconst (v := (-1)) dX11_beside_73 (by decide) ?_
      exact j_iret dX11_beside_74 rfl ⟨_, rfl, h⟩
    · replace h := h.2 hc
      refine j_iload_n 0 dX11_beside_67 rfl ?_
      refine j_iconst (v := 1) dX11_beside_68 (by decide) ?_
      refine j_iadd dX11_beside_69 ?_
      refine j_goto (tgt := 74) dX11_beside_70 (by decide) ?_
      exact j_iret dX11_beside_74 rfl ⟨_, rfl, h⟩
  replace h := h.2.2.2 hs0 hs1 hs2
  refine j_tableOut (tgt := 75) dX11_beside_1 (am_sw0 (n := 2) (fun k hk => match k, hk with | 0, _ => hs0 | 1, _ => hs1 | 2, _ => hs2 | k + 3, hk => absurd hk (by omega))) (by decide) ?_
  refine j_iload_n 0 dX11_beside_75 rfl ?_
  refine j_bipush (v := 8) dX11_beside_76 (by decide) ?_
  refine j_iadd dX11_beside_78 ?_
  refine j_bipush (v := 64) dX11_beside_79 (by decide) ?_
  refine j_icmp_ge (tgt := 91) dX11_beside_81 (by decide) (fun hc => ?_) (fun hc => ?_)
  · replace h := h.1 hc
    refine j_iconst (v := (-1)) dX11_beside_91 (by decide) ?_
    exact j_iret dX11_beside_92 rfl ⟨_, rfl, h⟩
  · replace h := h.2 hc
    refine j_iload_n 0 dX11_beside_84 rfl ?_
    refine j_bipush (v := 8) dX11_beside_85 (by decide) ?_
    refine j_iadd dX11_beside_87 ?_
    refine j_goto (tgt := 92) dX11_beside_88 (by decide) ?_
    exact j_iret dX11_beside_92 rfl ⟨_, rfl, h⟩
def w_X11_bit (a1 : Int32) (M : am_I) (N : am_N) (post : Int64 → am_I → am_N → Prop) : Prop :=
  post ((1 : Int64) <<< ((a1 : Int32).toInt64 &&& 63)) M N
set_option maxRecDepth 10000 in
theorem k_X11_bit {d : Nat} {dm : List am_C}  {a1 : Int32} {M : am_I} {N : am_N} {post : Int64 → am_I → am_N → Prop} (h : w_X11_bit a1 M N post) : jg (d + 1) mX11_bit dm 0 [(0, .inl a1)] [] M N (am_pl post) := by
  refine j_lconst (v := 1) dX11_bit_0 (by decide) ?_
  refine j_iload_n 0 dX11_bit_1 rfl ?_
  refine j_lshl dX11_bit_2 ?_
  exact j_lret dX11_bit_3 rfl ⟨_, rfl, h⟩
def w_X11_far (a1 : Int32) (a2 : Int32) (M : am_I) (N : am_N) (post : Int32 → am_I → am_N → Prop) : Prop :=
  w_J9_abs_0f7a4 ((am_rem a1 8) - (am_rem a2 8)) M N (fun zr1 zM2 zN3 => w_J9_abs_0f7a4 ((a1 / 8) - (a2 / 8)) zM2 zN3 (fun zr4 zM5 zN6 => post (zr1 + zr4) zM5 zN6))
set_option maxRecDepth 10000 in
theorem k_X11_far {d : Nat} {dm : List am_C}  {a1 : Int32} {a2 : Int32} {M : am_I} {N : am_N} {post : Int32 → am_I → am_N → Prop} (h : w_X11_far a1 a2 M N post) : jg (d + 2) mX11_far dm 0 [(0, .inl a1), (1, .inl a2)] [] M N (am_pi post) := by
  refine j_iload_n 0 dX11_far_0 rfl ?_
  refine j_bipush (v := 8) dX11_far_1 (by decide) ?_
  refine j_irem dX11_far_3 (by decide) ?_
  refine j_iload_n 1 dX11_far_4 rfl ?_
  refine j_bipush (v := 8) dX11_far_5 (by decide) ?_
  refine j_irem dX11_far_7 (by decide) ?_
  refine j_isub dX11_far_8 ?_
  refine j_invS (As := [.inl ((am_rem a1 8) - (am_rem a2 8))]) dX11_far_9 msRX11_334 mbJ9_abs_0f7a4 rfl rfl (Nat.le_of_ble_eq_true rfl) (Nat.le_of_ble_eq_true rfl) (by omega) (k_J9_abs_0f7a4 (d := d + 0)  h) ?_
  rintro _ zM2 zN3 ⟨zr1, rfl, h⟩
  refine j_iload_n 0 dX11_far_12 rfl ?_
  refine j_bipush (v := 8) dX11_far_13 (by decide) ?_
  refine j_idiv dX11_far_15 (by decide) ?_
  refine j_iload_n 1 dX11_far_16 rfl ?_
  refine j_bipush (v := 8) dX11_far_17 (by decide) ?_
  refine j_idiv dX11_far_19 (by decide) ?_
  refine j_isub dX11_far_20 ?_
  refine j_invS (As := [.inl ((a1 / 8) - (a2 / 8))]) dX11_far_21 msRX11_334 mbJ9_abs_0f7a4 rfl rfl (Nat.le_of_ble_eq_true rfl) (Nat.le_of_ble_eq_true rfl) (by omega) (k_J9_abs_0f7a4 (d := d + 0)  h) ?_
  rintro _ zM5 zN6 ⟨zr4, rfl, h⟩
  refine j_iadd dX11_far_24 ?_
  exact j_iret dX11_far_25 rfl ⟨_, rfl, h⟩
