/-! ===== methods: 13.ground ===== -/
theorem dX2_begin_0 : decode mX2_begin.2.1 0 = .ok (.aload_n 0, 1) := by decide +kernel
theorem dX2_begin_1 : decode mX2_begin.2.1 1 = .ok (.getfield 9, 3) := by decide +kernel
theorem dX2_begin_4 : decode mX2_begin.2.1 4 = .ok (.iconst 0, 1) := by decide +kernel
theorem dX2_begin_5 : decode mX2_begin.2.1 5 = .ok (.invokestatic 24, 3) := by decide +kernel
theorem dX2_begin_8 : decode mX2_begin.2.1 8 = .ok (.aload_n 0, 1) := by decide +kernel
theorem dX2_begin_9 : decode mX2_begin.2.1 9 = .ok (.getfield 15, 3) := by decide +kernel
theorem dX2_begin_12 : decode mX2_begin.2.1 12 = .ok (.iconst 0, 1) := by decide +kernel
theorem dX2_begin_13 : decode mX2_begin.2.1 13 = .ok (.invokestatic 24, 3) := by decide +kernel
theorem dX2_begin_16 : decode mX2_begin.2.1 16 = .ok (.aload_n 0, 1) := by decide +kernel
theorem dX2_begin_17 : decode mX2_begin.2.1 17 = .ok (.getfield 18, 3) := by decide +kernel
theorem dX2_begin_20 : decode mX2_begin.2.1 20 = .ok (.iconst 0, 1) := by decide +kernel
theorem dX2_begin_21 : decode mX2_begin.2.1 21 = .ok (.invokestatic 24, 3) := by decide +kernel
theorem dX2_begin_24 : decode mX2_begin.2.1 24 = .ok (.aload_n 0, 1) := by decide +kernel
theorem dX2_begin_25 : decode mX2_begin.2.1 25 = .ok (.lconst 0, 1) := by decide +kernel
theorem dX2_begin_26 : decode mX2_begin.2.1 26 = .ok (.putfield 30, 3) := by decide +kernel
theorem dX2_begin_29 : decode mX2_begin.2.1 29 = .ok (.aload_n 0, 1) := by decide +kernel
theorem dX2_begin_30 : decode mX2_begin.2.1 30 = .ok (.lconst 0, 1) := by decide +kernel
theorem dX2_begin_31 : decode mX2_begin.2.1 31 = .ok (.putfield 34, 3) := by decide +kernel
theorem dX2_begin_34 : decode mX2_begin.2.1 34 = .ok (.return_, 1) := by decide +kernel
theorem dX2_rainOn_0 : decode mX2_rainOn.2.1 0 = .ok (.iload_n 1, 1) := by decide +kernel
theorem dX2_rainOn_1 : decode mX2_rainOn.2.1 1 = .ok (.ifCond .ne 4, 3) := by decide +kernel
theorem dX2_rainOn_4 : decode mX2_rainOn.2.1 4 = .ok (.return_, 1) := by decide +kernel
theorem dX2_rainOn_5 : decode mX2_rainOn.2.1 5 = .ok (.iconst 0, 1) := by decide +kernel
theorem dX2_rainOn_6 : decode mX2_rainOn.2.1 6 = .ok (.istore_n 2, 1) := by decide +kernel
theorem dX2_rainOn_7 : decode mX2_rainOn.2.1 7 = .ok (.iload_n 2, 1) := by decide +kernel
theorem dX2_rainOn_8 : decode mX2_rainOn.2.1 8 = .ok (.bipush 64, 2) := by decide +kernel
theorem dX2_rainOn_10 : decode mX2_rainOn.2.1 10 = .ok (.if_icmp .ge 19, 3) := by decide +kernel
theorem dX2_rainOn_13 : decode mX2_rainOn.2.1 13 = .ok (.aload_n 0, 1) := by decide +kernel
theorem dX2_rainOn_14 : decode mX2_rainOn.2.1 14 = .ok (.getfield 15, 3) := by decide +kernel
theorem dX2_rainOn_17 : decode mX2_rainOn.2.1 17 = .ok (.iload_n 2, 1) := by decide +kernel
theorem dX2_rainOn_18 : decode mX2_rainOn.2.1 18 = .ok (.dup2, 1) := by decide +kernel
theorem dX2_rainOn_19 : decode mX2_rainOn.2.1 19 = .ok (.iaload, 1) := by decide +kernel
theorem dX2_rainOn_20 : decode mX2_rainOn.2.1 20 = .ok (.iload_n 1, 1) := by decide +kernel
theorem dX2_rainOn_21 : decode mX2_rainOn.2.1 21 = .ok (.iadd, 1) := by decide +kernel
theorem dX2_rainOn_22 : decode mX2_rainOn.2.1 22 = .ok (.iastore, 1) := by decide +kernel
theorem dX2_rainOn_23 : decode mX2_rainOn.2.1 23 = .ok (.iinc 2 1, 3) := by decide +kernel
theorem dX2_rainOn_26 : decode mX2_rainOn.2.1 26 = .ok (.goto (-19), 3) := by decide +kernel
theorem dX2_rainOn_29 : decode mX2_rainOn.2.1 29 = .ok (.aload_n 0, 1) := by decide +kernel
theorem dX2_rainOn_30 : decode mX2_rainOn.2.1 30 = .ok (.dup, 1) := by decide +kernel
theorem dX2_rainOn_31 : decode mX2_rainOn.2.1 31 = .ok (.getfield 30, 3) := by decide +kernel
theorem dX2_rainOn_34 : decode mX2_rainOn.2.1 34 = .ok (.iload_n 1, 1) := by decide +kernel
theorem dX2_rainOn_35 : decode mX2_rainOn.2.1 35 = .ok (.i2l, 1) := by decide +kernel
theorem dX2_rainOn_36 : decode mX2_rainOn.2.1 36 = .ok (.ldc2_w 41, 3) := by decide +kernel
theorem dX2_rainOn_39 : decode mX2_rainOn.2.1 39 = .ok (.lmul, 1) := by decide +kernel
theorem dX2_rainOn_40 : decode mX2_rainOn.2.1 40 = .ok (.ladd, 1) := by decide +kernel
theorem dX2_rainOn_41 : decode mX2_rainOn.2.1 41 = .ok (.putfield 30, 3) := by decide +kernel
theorem dX2_rainOn_44 : decode mX2_rainOn.2.1 44 = .ok (.return_, 1) := by decide +kernel
theorem dX2_dry_0 : decode mX2_dry.2.1 0 = .ok (.iconst 0, 1) := by decide +kernel
theorem dX2_dry_1 : decode mX2_dry.2.1 1 = .ok (.istore_n 1, 1) := by decide +kernel
theorem dX2_dry_2 : decode mX2_dry.2.1 2 = .ok (.iload_n 1, 1) := by decide +kernel
theorem dX2_dry_3 : decode mX2_dry.2.1 3 = .ok (.bipush 64, 2) := by decide +kernel
theorem dX2_dry_5 : decode mX2_dry.2.1 5 = .ok (.if_icmp .ge 38, 3) := by decide +kernel
theorem dX2_dry_8 : decode mX2_dry.2.1 8 = .ok (.aload_n 0, 1) := by decide +kernel
theorem dX2_dry_9 : decode mX2_dry.2.1 9 = .ok (.getfield 15, 3) := by decide +kernel
theorem dX2_dry_12 : decode mX2_dry.2.1 12 = .ok (.iload_n 1, 1) := by decide +kernel
theorem dX2_dry_13 : decode mX2_dry.2.1 13 = .ok (.iaload, 1) := by decide +kernel
theorem dX2_dry_14 : decode mX2_dry.2.1 14 = .ok (.ifCond .le 23, 3) := by decide +kernel
theorem dX2_dry_17 : decode mX2_dry.2.1 17 = .ok (.aload_n 0, 1) := by decide +kernel
theorem dX2_dry_18 : decode mX2_dry.2.1 18 = .ok (.getfield 15, 3) := by decide +kernel
theorem dX2_dry_21 : decode mX2_dry.2.1 21 = .ok (.iload_n 1, 1) := by decide +kernel
theorem dX2_dry_22 : decode mX2_dry.2.1 22 = .ok (.dup2, 1) := by decide +kernel
theorem dX2_dry_23 : decode mX2_dry.2.1 23 = .ok (.iaload, 1) := by decide +kernel
theorem dX2_dry_24 : decode mX2_dry.2.1 24 = .ok (.iconst 1, 1) := by decide +kernel
theorem dX2_dry_25 : decode mX2_dry.2.1 25 = .ok (.isub, 1) := by decide +kernel
theorem dX2_dry_26 : decode mX2_dry.2.1 26 = .ok (.iastore, 1) := by decide +kernel
theorem dX2_dry_27 : decode mX2_dry.2.1 27 = .ok (.aload_n 0, 1) := by decide +kernel
theorem dX2_dry_28 : decode mX2_dry.2.1 28 = .ok (.dup, 1) := by decide +kernel
theorem dX2_dry_29 : decode mX2_dry.2.1 29 = .ok (.getfield 34, 3) := by decide +kernel
theorem dX2_dry_32 : decode mX2_dry.2.1 32 = .ok (.lconst 1, 1) := by decide +kernel
theorem dX2_dry_33 : decode mX2_dry.2.1 33 = .ok (.ladd, 1) := by decide +kernel
theorem dX2_dry_34 : decode mX2_dry.2.1 34 = .ok (.putfield 34, 3) := by decide +kernel
theorem dX2_dry_37 : decode mX2_dry.2.1 37 = .ok (.iinc 1 1, 3) := by decide +kernel
theorem dX2_dry_40 : decode mX2_dry.2.1 40 = .ok (.goto (-38), 3) := by decide +kernel
theorem dX2_dry_43 : decode mX2_dry.2.1 43 = .ok (.return_, 1) := by decide +kernel
theorem dX2_allWet_0 : decode mX2_allWet.2.1 0 = .ok (.lconst 0, 1) := by decide +kernel
theorem dX2_allWet_1 : decode mX2_allWet.2.1 1 = .ok (.lstore_n 1, 1) := by decide +kernel
theorem dX2_allWet_2 : decode mX2_allWet.2.1 2 = .ok (.iconst 0, 1) := by decide +kernel
theorem dX2_allWet_3 : decode mX2_allWet.2.1 3 = .ok (.istore_n 3, 1) := by decide +kernel
theorem dX2_allWet_4 : decode mX2_allWet.2.1 4 = .ok (.iload_n 3, 1) := by decide +kernel
theorem dX2_allWet_5 : decode mX2_allWet.2.1 5 = .ok (.bipush 64, 2) := by decide +kernel
theorem dX2_allWet_7 : decode mX2_allWet.2.1 7 = .ok (.if_icmp .ge 19, 3) := by decide +kernel
theorem dX2_allWet_10 : decode mX2_allWet.2.1 10 = .ok (.lload_n 1, 1) := by decide +kernel
theorem dX2_allWet_11 : decode mX2_allWet.2.1 11 = .ok (.aload_n 0, 1) := by decide +kernel
theorem dX2_allWet_12 : decode mX2_allWet.2.1 12 = .ok (.getfield 15, 3) := by decide +kernel
theorem dX2_allWet_15 : decode mX2_allWet.2.1 15 = .ok (.iload_n 3, 1) := by decide +kernel
theorem dX2_allWet_16 : decode mX2_allWet.2.1 16 = .ok (.iaload, 1) := by decide +kernel
theorem dX2_allWet_17 : decode mX2_allWet.2.1 17 = .ok (.i2l, 1) := by decide +kernel
theorem dX2_allWet_18 : decode mX2_allWet.2.1 18 = .ok (.ladd, 1) := by decide +kernel
theorem dX2_allWet_19 : decode mX2_allWet.2.1 19 = .ok (.lstore_n 1, 1) := by decide +kernel
theorem dX2_allWet_20 : decode mX2_allWet.2.1 20 = .ok (.iinc 3 1, 3) := by decide +kernel
theorem dX2_allWet_23 : decode mX2_allWet.2.1 23 = .ok (.goto (-19), 3) := by decide +kernel
theorem dX2_allWet_26 : decode mX2_allWet.2.1 26 = .ok (.lload_n 1, 1) := by decide +kernel
theorem dX2_allWet_27 : decode mX2_allWet.2.1 27 = .ok (.lreturn, 1) := by decide +kernel
theorem dX2_heavy_0 : decode mX2_heavy.2.1 0 = .ok (.iload_n 1, 1) := by decide +kernel
theorem dX2_heavy_1 : decode mX2_heavy.2.1 1 = .ok (.iconst 1, 1) := by decide +kernel
theorem dX2_heavy_2 : decode mX2_heavy.2.1 2 = .ok (.aload_n 0, 1) := by decide +kernel
theorem dX2_heavy_3 : decode mX2_heavy.2.1 3 = .ok (.getfield 15, 3) := by decide +kernel
theorem dX2_heavy_6 : decode mX2_heavy.2.1 6 = .ok (.iload_n 2, 1) := by decide +kernel
theorem dX2_heavy_7 : decode mX2_heavy.2.1 7 = .ok (.iaload, 1) := by decide +kernel
theorem dX2_heavy_8 : decode mX2_heavy.2.1 8 = .ok (.bipush 100, 2) := by decide +kernel
theorem dX2_heavy_10 : decode mX2_heavy.2.1 10 = .ok (.idiv, 1) := by decide +kernel
theorem dX2_heavy_11 : decode mX2_heavy.2.1 11 = .ok (.iadd, 1) := by decide +kernel
theorem dX2_heavy_12 : decode mX2_heavy.2.1 12 = .ok (.imul, 1) := by decide +kernel
theorem dX2_heavy_13 : decode mX2_heavy.2.1 13 = .ok (.ireturn, 1) := by decide +kernel
theorem dX4_stepped_0 : decode mX4_stepped.2.1 0 = .ok (.lload_n 0, 1) := by decide +kernel
theorem dX4_stepped_1 : decode mX4_stepped.2.1 1 = .ok (.ldc2_w 54, 3) := by decide +kernel
theorem dX4_stepped_4 : decode mX4_stepped.2.1 4 = .ok (.land, 1) := by decide +kernel
theorem dX4_stepped_5 : decode mX4_stepped.2.1 5 = .ok (.iconst 1, 1) := by decide +kernel
theorem dX4_stepped_6 : decode mX4_stepped.2.1 6 = .ok (.lshl, 1) := by decide +kernel
theorem dX4_stepped_7 : decode mX4_stepped.2.1 7 = .ok (.lload_n 0, 1) := by decide +kernel
theorem dX4_stepped_8 : decode mX4_stepped.2.1 8 = .ok (.ldc2_w 56, 3) := by decide +kernel
theorem dX4_stepped_11 : decode mX4_stepped.2.1 11 = .ok (.land, 1) := by decide +kernel
theorem dX4_stepped_12 : decode mX4_stepped.2.1 12 = .ok (.iconst 1, 1) := by decide +kernel
theorem dX4_stepped_13 : decode mX4_stepped.2.1 13 = .ok (.lushr, 1) := by decide +kernel
theorem dX4_stepped_14 : decode mX4_stepped.2.1 14 = .ok (.lor, 1) := by decide +kernel
theorem dX4_stepped_15 : decode mX4_stepped.2.1 15 = .ok (.lstore 4, 2) := by decide +kernel
theorem dX4_stepped_17 : decode mX4_stepped.2.1 17 = .ok (.lload_n 0, 1) := by decide +kernel
theorem dX4_stepped_18 : decode mX4_stepped.2.1 18 = .ok (.lload 4, 2) := by decide +kernel
theorem dX4_stepped_20 : decode mX4_stepped.2.1 20 = .ok (.lor, 1) := by decide +kernel
theorem dX4_stepped_21 : decode mX4_stepped.2.1 21 = .ok (.lload_n 0, 1) := by decide +kernel
theorem dX4_stepped_22 : decode mX4_stepped.2.1 22 = .ok (.bipush 8, 2) := by decide +kernel
theorem dX4_stepped_24 : decode mX4_stepped.2.1 24 = .ok (.lshl, 1) := by decide +kernel
theorem dX4_stepped_25 : decode mX4_stepped.2.1 25 = .ok (.lor, 1) := by decide +kernel
theorem dX4_stepped_26 : decode mX4_stepped.2.1 26 = .ok (.lload_n 0, 1) := by decide +kernel
theorem dX4_stepped_27 : decode mX4_stepped.2.1 27 = .ok (.bipush 8, 2) := by decide +kernel
theorem dX4_stepped_29 : decode mX4_stepped.2.1 29 = .ok (.lushr, 1) := by decide +kernel
theorem dX4_stepped_30 : decode mX4_stepped.2.1 30 = .ok (.lor, 1) := by decide +kernel
theorem dX4_stepped_31 : decode mX4_stepped.2.1 31 = .ok (.lload_n 2, 1) := by decide +kernel
theorem dX4_stepped_32 : decode mX4_stepped.2.1 32 = .ok (.land, 1) := by decide +kernel
theorem dX4_stepped_33 : decode mX4_stepped.2.1 33 = .ok (.lreturn, 1) := by decide +kernel
theorem dX2_shape_0 : decode mX2_shape.2.1 0 = .ok (.iload_n 1, 1) := by decide +kernel
theorem dX2_shape_1 : decode mX2_shape.2.1 1 = .ok (.invokestatic 37, 3) := by decide +kernel
theorem dX2_shape_4 : decode mX2_shape.2.1 4 = .ok (.ifCond .eq 17, 3) := by decide +kernel
theorem dX2_shape_7 : decode mX2_shape.2.1 7 = .ok (.aload_n 0, 1) := by decide +kernel
theorem dX2_shape_8 : decode mX2_shape.2.1 8 = .ok (.getfield 9, 3) := by decide +kernel
theorem dX2_shape_11 : decode mX2_shape.2.1 11 = .ok (.iload_n 1, 1) := by decide +kernel
theorem dX2_shape_12 : decode mX2_shape.2.1 12 = .ok (.iload_n 2, 1) := by decide +kernel
theorem dX2_shape_13 : decode mX2_shape.2.1 13 = .ok (.iastore, 1) := by decide +kernel
theorem dX2_shape_14 : decode mX2_shape.2.1 14 = .ok (.aload_n 0, 1) := by decide +kernel
theorem dX2_shape_15 : decode mX2_shape.2.1 15 = .ok (.getfield 15, 3) := by decide +kernel
theorem dX2_shape_18 : decode mX2_shape.2.1 18 = .ok (.iload_n 1, 1) := by decide +kernel
theorem dX2_shape_19 : decode mX2_shape.2.1 19 = .ok (.iload_n 3, 1) := by decide +kernel
theorem dX2_shape_20 : decode mX2_shape.2.1 20 = .ok (.iastore, 1) := by decide +kernel
theorem dX2_shape_21 : decode mX2_shape.2.1 21 = .ok (.return_, 1) := by decide +kernel
theorem dX2_lowestBeside_0 : decode mX2_lowestBeside.2.1 0 = .ok (.iload_n 1, 1) := by decide +kernel
theorem dX2_lowestBeside_1 : decode mX2_lowestBeside.2.1 1 = .ok (.istore_n 2, 1) := by decide +kernel
theorem dX2_lowestBeside_2 : decode mX2_lowestBeside.2.1 2 = .ok (.iconst 0, 1) := by decide +kernel
theorem dX2_lowestBeside_3 : decode mX2_lowestBeside.2.1 3 = .ok (.istore_n 3, 1) := by decide +kernel
theorem dX2_lowestBeside_4 : decode mX2_lowestBeside.2.1 4 = .ok (.iload_n 3, 1) := by decide +kernel
theorem dX2_lowestBeside_5 : decode mX2_lowestBeside.2.1 5 = .ok (.iconst 4, 1) := by decide +kernel
theorem dX2_lowestBeside_6 : decode mX2_lowestBeside.2.1 6 = .ok (.if_icmp .ge 40, 3) := by decide +kernel
theorem dX2_lowestBeside_9 : decode mX2_lowestBeside.2.1 9 = .ok (.iload_n 1, 1) := by decide +kernel
theorem dX2_lowestBeside_10 : decode mX2_lowestBeside.2.1 10 = .ok (.iload_n 3, 1) := by decide +kernel
theorem dX2_lowestBeside_11 : decode mX2_lowestBeside.2.1 11 = .ok (.invokestatic 47, 3) := by decide +kernel
theorem dX2_lowestBeside_14 : decode mX2_lowestBeside.2.1 14 = .ok (.istore 4, 2) := by decide +kernel
theorem dX2_lowestBeside_16 : decode mX2_lowestBeside.2.1 16 = .ok (.iload 4, 2) := by decide +kernel
theorem dX2_lowestBeside_18 : decode mX2_lowestBeside.2.1 18 = .ok (.ifCond .lt 22, 3) := by decide +kernel
theorem dX2_lowestBeside_21 : decode mX2_lowestBeside.2.1 21 = .ok (.aload_n 0, 1) := by decide +kernel
theorem dX2_lowestBeside_22 : decode mX2_lowestBeside.2.1 22 = .ok (.getfield 9, 3) := by decide +kernel
theorem dX2_lowestBeside_25 : decode mX2_lowestBeside.2.1 25 = .ok (.iload 4, 2) := by decide +kernel
theorem dX2_lowestBeside_27 : decode mX2_lowestBeside.2.1 27 = .ok (.iaload, 1) := by decide +kernel
theorem dX2_lowestBeside_28 : decode mX2_lowestBeside.2.1 28 = .ok (.aload_n 0, 1) := by decide +kernel
theorem dX2_lowestBeside_29 : decode mX2_lowestBeside.2.1 29 = .ok (.getfield 9, 3) := by decide +kernel
theorem dX2_lowestBeside_32 : decode mX2_lowestBeside.2.1 32 = .ok (.iload_n 2, 1) := by decide +kernel
theorem dX2_lowestBeside_33 : decode mX2_lowestBeside.2.1 33 = .ok (.iaload, 1) := by decide +kernel
theorem dX2_lowestBeside_34 : decode mX2_lowestBeside.2.1 34 = .ok (.if_icmp .ge 6, 3) := by decide +kernel
theorem dX2_lowestBeside_37 : decode mX2_lowestBeside.2.1 37 = .ok (.iload 4, 2) := by decide +kernel
theorem dX2_lowestBeside_39 : decode mX2_lowestBeside.2.1 39 = .ok (.istore_n 2, 1) := by decide +kernel
theorem dX2_lowestBeside_40 : decode mX2_lowestBeside.2.1 40 = .ok (.iinc 3 1, 3) := by decide +kernel
theorem dX2_lowestBeside_43 : decode mX2_lowestBeside.2.1 43 = .ok (.goto (-39), 3) := by decide +kernel
theorem dX2_lowestBeside_46 : decode mX2_lowestBeside.2.1 46 = .ok (.iload_n 2, 1) := by decide +kernel
theorem dX2_lowestBeside_47 : decode mX2_lowestBeside.2.1 47 = .ok (.ireturn, 1) := by decide +kernel
theorem dX4_cellNumbered_0 : decode mX4_cellNumbered.2.1 0 = .ok (.iconst 0, 1) := by decide +kernel
theorem dX4_cellNumbered_1 : decode mX4_cellNumbered.2.1 1 = .ok (.istore_n 3, 1) := by decide +kernel
theorem dX4_cellNumbered_2 : decode mX4_cellNumbered.2.1 2 = .ok (.iconst 0, 1) := by decide +kernel
theorem dX4_cellNumbered_3 : decode mX4_cellNumbered.2.1 3 = .ok (.istore 4, 2) := by decide +kernel
theorem dX4_cellNumbered_5 : decode mX4_cellNumbered.2.1 5 = .ok (.iload 4, 2) := by decide +kernel
theorem dX4_cellNumbered_7 : decode mX4_cellNumbered.2.1 7 = .ok (.bipush 64, 2) := by decide +kernel
theorem dX4_cellNumbered_9 : decode mX4_cellNumbered.2.1 9 = .ok (.if_icmp .ge 32, 3) := by decide +kernel
theorem dX4_cellNumbered_12 : decode mX4_cellNumbered.2.1 12 = .ok (.lload_n 0, 1) := by decide +kernel
theorem dX4_cellNumbered_13 : decode mX4_cellNumbered.2.1 13 = .ok (.iload 4, 2) := by decide +kernel
theorem dX4_cellNumbered_15 : decode mX4_cellNumbered.2.1 15 = .ok (.invokestatic 9, 3) := by decide +kernel
theorem dX4_cellNumbered_18 : decode mX4_cellNumbered.2.1 18 = .ok (.land, 1) := by decide +kernel
theorem dX4_cellNumbered_19 : decode mX4_cellNumbered.2.1 19 = .ok (.lconst 0, 1) := by decide +kernel
theorem dX4_cellNumbered_20 : decode mX4_cellNumbered.2.1 20 = .ok (.lcmp, 1) := by decide +kernel
theorem dX4_cellNumbered_21 : decode mX4_cellNumbered.2.1 21 = .ok (.ifCond .eq 14, 3) := by decide +kernel
theorem dX4_cellNumbered_24 : decode mX4_cellNumbered.2.1 24 = .ok (.iload_n 3, 1) := by decide +kernel
theorem dX4_cellNumbered_25 : decode mX4_cellNumbered.2.1 25 = .ok (.iload_n 2, 1) := by decide +kernel
theorem dX4_cellNumbered_26 : decode mX4_cellNumbered.2.1 26 = .ok (.if_icmp .ne 6, 3) := by decide +kernel
theorem dX4_cellNumbered_29 : decode mX4_cellNumbered.2.1 29 = .ok (.iload 4, 2) := by decide +kernel
theorem dX4_cellNumbered_31 : decode mX4_cellNumbered.2.1 31 = .ok (.ireturn, 1) := by decide +kernel
theorem dX4_cellNumbered_32 : decode mX4_cellNumbered.2.1 32 = .ok (.iinc 3 1, 3) := by decide +kernel
theorem dX4_cellNumbered_35 : decode mX4_cellNumbered.2.1 35 = .ok (.iinc 4 1, 3) := by decide +kernel
theorem dX4_cellNumbered_38 : decode mX4_cellNumbered.2.1 38 = .ok (.goto (-33), 3) := by decide +kernel
theorem dX4_cellNumbered_41 : decode mX4_cellNumbered.2.1 41 = .ok (.iconst (-1), 1) := by decide +kernel
theorem dX4_cellNumbered_42 : decode mX4_cellNumbered.2.1 42 = .ok (.ireturn, 1) := by decide +kernel
theorem dX4_reached_0 : decode mX4_reached.2.1 0 = .ok (.lload_n 0, 1) := by decide +kernel
theorem dX4_reached_1 : decode mX4_reached.2.1 1 = .ok (.lstore 5, 2) := by decide +kernel
theorem dX4_reached_3 : decode mX4_reached.2.1 3 = .ok (.iconst 0, 1) := by decide +kernel
theorem dX4_reached_4 : decode mX4_reached.2.1 4 = .ok (.istore 7, 2) := by decide +kernel
theorem dX4_reached_6 : decode mX4_reached.2.1 6 = .ok (.iload 7, 2) := by decide +kernel
theorem dX4_reached_8 : decode mX4_reached.2.1 8 = .ok (.iload 4, 2) := by decide +kernel
theorem dX4_reached_10 : decode mX4_reached.2.1 10 = .ok (.if_icmp .ge 32, 3) := by decide +kernel
theorem dX4_reached_13 : decode mX4_reached.2.1 13 = .ok (.lload 5, 2) := by decide +kernel
theorem dX4_reached_15 : decode mX4_reached.2.1 15 = .ok (.lload_n 2, 1) := by decide +kernel
theorem dX4_reached_16 : decode mX4_reached.2.1 16 = .ok (.invokestatic 21, 3) := by decide +kernel
theorem dX4_reached_19 : decode mX4_reached.2.1 19 = .ok (.lstore 8, 2) := by decide +kernel
theorem dX4_reached_21 : decode mX4_reached.2.1 21 = .ok (.lload 8, 2) := by decide +kernel
theorem dX4_reached_23 : decode mX4_reached.2.1 23 = .ok (.lload 5, 2) := by decide +kernel
theorem dX4_reached_25 : decode mX4_reached.2.1 25 = .ok (.lcmp, 1) := by decide +kernel
theorem dX4_reached_26 : decode mX4_reached.2.1 26 = .ok (.ifCond .ne 6, 3) := by decide +kernel
theorem dX4_reached_29 : decode mX4_reached.2.1 29 = .ok (.lload 5, 2) := by decide +kernel
theorem dX4_reached_31 : decode mX4_reached.2.1 31 = .ok (.lreturn, 1) := by decide +kernel
theorem dX4_reached_32 : decode mX4_reached.2.1 32 = .ok (.lload 8, 2) := by decide +kernel
theorem dX4_reached_34 : decode mX4_reached.2.1 34 = .ok (.lstore 5, 2) := by decide +kernel
theorem dX4_reached_36 : decode mX4_reached.2.1 36 = .ok (.iinc 7 1, 3) := by decide +kernel
theorem dX4_reached_39 : decode mX4_reached.2.1 39 = .ok (.goto (-33), 3) := by decide +kernel
theorem dX4_reached_42 : decode mX4_reached.2.1 42 = .ok (.lload 5, 2) := by decide +kernel
theorem dX4_reached_44 : decode mX4_reached.2.1 44 = .ok (.lreturn, 1) := by decide +kernel
theorem dX2_flow_0 : decode mX2_flow.2.1 0 = .ok (.aload_n 0, 1) := by decide +kernel
theorem dX2_flow_1 : decode mX2_flow.2.1 1 = .ok (.getfield 21, 3) := by decide +kernel
theorem dX2_flow_4 : decode mX2_flow.2.1 4 = .ok (.iconst 0, 1) := by decide +kernel
theorem dX2_flow_5 : decode mX2_flow.2.1 5 = .ok (.invokestatic 24, 3) := by decide +kernel
theorem dX2_flow_8 : decode mX2_flow.2.1 8 = .ok (.iconst 0, 1) := by decide +kernel
theorem dX2_flow_9 : decode mX2_flow.2.1 9 = .ok (.istore_n 1, 1) := by decide +kernel
theorem dX2_flow_10 : decode mX2_flow.2.1 10 = .ok (.iload_n 1, 1) := by decide +kernel
theorem dX2_flow_11 : decode mX2_flow.2.1 11 = .ok (.bipush 64, 2) := by decide +kernel
theorem dX2_flow_13 : decode mX2_flow.2.1 13 = .ok (.if_icmp .ge 77, 3) := by decide +kernel
theorem dX2_flow_16 : decode mX2_flow.2.1 16 = .ok (.aload_n 0, 1) := by decide +kernel
theorem dX2_flow_17 : decode mX2_flow.2.1 17 = .ok (.getfield 15, 3) := by decide +kernel
theorem dX2_flow_20 : decode mX2_flow.2.1 20 = .ok (.iload_n 1, 1) := by decide +kernel
theorem dX2_flow_21 : decode mX2_flow.2.1 21 = .ok (.iaload, 1) := by decide +kernel
theorem dX2_flow_22 : decode mX2_flow.2.1 22 = .ok (.bipush 100, 2) := by decide +kernel
theorem dX2_flow_24 : decode mX2_flow.2.1 24 = .ok (.if_icmp .le 11, 3) := by decide +kernel
theorem dX2_flow_27 : decode mX2_flow.2.1 27 = .ok (.aload_n 0, 1) := by decide +kernel
theorem dX2_flow_28 : decode mX2_flow.2.1 28 = .ok (.iload_n 1, 1) := by decide +kernel
theorem dX2_flow_29 : decode mX2_flow.2.1 29 = .ok (.invokevirtual 43, 3) := by decide +kernel
theorem dX2_flow_32 : decode mX2_flow.2.1 32 = .ok (.goto 4, 3) := by decide +kernel
theorem dX2_flow_35 : decode mX2_flow.2.1 35 = .ok (.iload_n 1, 1) := by decide +kernel
theorem dX2_flow_36 : decode mX2_flow.2.1 36 = .ok (.istore_n 2, 1) := by decide +kernel
theorem dX2_flow_37 : decode mX2_flow.2.1 37 = .ok (.aload_n 0, 1) := by decide +kernel
theorem dX2_flow_38 : decode mX2_flow.2.1 38 = .ok (.getfield 9, 3) := by decide +kernel
theorem dX2_flow_41 : decode mX2_flow.2.1 41 = .ok (.iload_n 2, 1) := by decide +kernel
theorem dX2_flow_42 : decode mX2_flow.2.1 42 = .ok (.iaload, 1) := by decide +kernel
theorem dX2_flow_43 : decode mX2_flow.2.1 43 = .ok (.aload_n 0, 1) := by decide +kernel
theorem dX2_flow_44 : decode mX2_flow.2.1 44 = .ok (.getfield 9, 3) := by decide +kernel
theorem dX2_flow_47 : decode mX2_flow.2.1 47 = .ok (.iload_n 1, 1) := by decide +kernel
theorem dX2_flow_48 : decode mX2_flow.2.1 48 = .ok (.iaload, 1) := by decide +kernel
theorem dX2_flow_49 : decode mX2_flow.2.1 49 = .ok (.if_icmp .ge 35, 3) := by decide +kernel
theorem dX2_flow_52 : decode mX2_flow.2.1 52 = .ok (.aload_n 0, 1) := by decide +kernel
theorem dX2_flow_53 : decode mX2_flow.2.1 53 = .ok (.getfield 15, 3) := by decide +kernel
theorem dX2_flow_56 : decode mX2_flow.2.1 56 = .ok (.iload_n 1, 1) := by decide +kernel
theorem dX2_flow_57 : decode mX2_flow.2.1 57 = .ok (.iaload, 1) := by decide +kernel
theorem dX2_flow_58 : decode mX2_flow.2.1 58 = .ok (.bipush 100, 2) := by decide +kernel
theorem dX2_flow_60 : decode mX2_flow.2.1 60 = .ok (.isub, 1) := by decide +kernel
theorem dX2_flow_61 : decode mX2_flow.2.1 61 = .ok (.iconst 2, 1) := by decide +kernel
theorem dX2_flow_62 : decode mX2_flow.2.1 62 = .ok (.idiv, 1) := by decide +kernel
theorem dX2_flow_63 : decode mX2_flow.2.1 63 = .ok (.istore_n 3, 1) := by decide +kernel
theorem dX2_flow_64 : decode mX2_flow.2.1 64 = .ok (.aload_n 0, 1) := by decide +kernel
theorem dX2_flow_65 : decode mX2_flow.2.1 65 = .ok (.getfield 21, 3) := by decide +kernel
theorem dX2_flow_68 : decode mX2_flow.2.1 68 = .ok (.iload_n 1, 1) := by decide +kernel
theorem dX2_flow_69 : decode mX2_flow.2.1 69 = .ok (.dup2, 1) := by decide +kernel
theorem dX2_flow_70 : decode mX2_flow.2.1 70 = .ok (.iaload, 1) := by decide +kernel
theorem dX2_flow_71 : decode mX2_flow.2.1 71 = .ok (.iload_n 3, 1) := by decide +kernel
theorem dX2_flow_72 : decode mX2_flow.2.1 72 = .ok (.isub, 1) := by decide +kernel
theorem dX2_flow_73 : decode mX2_flow.2.1 73 = .ok (.iastore, 1) := by decide +kernel
theorem dX2_flow_74 : decode mX2_flow.2.1 74 = .ok (.aload_n 0, 1) := by decide +kernel
theorem dX2_flow_75 : decode mX2_flow.2.1 75 = .ok (.getfield 21, 3) := by decide +kernel
theorem dX2_flow_78 : decode mX2_flow.2.1 78 = .ok (.iload_n 2, 1) := by decide +kernel
theorem dX2_flow_79 : decode mX2_flow.2.1 79 = .ok (.dup2, 1) := by decide +kernel
theorem dX2_flow_80 : decode mX2_flow.2.1 80 = .ok (.iaload, 1) := by decide +kernel
theorem dX2_flow_81 : decode mX2_flow.2.1 81 = .ok (.iload_n 3, 1) := by decide +kernel
theorem dX2_flow_82 : decode mX2_flow.2.1 82 = .ok (.iadd, 1) := by decide +kernel
theorem dX2_flow_83 : decode mX2_flow.2.1 83 = .ok (.iastore, 1) := by decide +kernel
theorem dX2_flow_84 : decode mX2_flow.2.1 84 = .ok (.iinc 1 1, 3) := by decide +kernel
theorem dX2_flow_87 : decode mX2_flow.2.1 87 = .ok (.goto (-77), 3) := by decide +kernel
theorem dX2_flow_90 : decode mX2_flow.2.1 90 = .ok (.iconst 0, 1) := by decide +kernel
theorem dX2_flow_91 : decode mX2_flow.2.1 91 = .ok (.istore_n 1, 1) := by decide +kernel
theorem dX2_flow_92 : decode mX2_flow.2.1 92 = .ok (.iload_n 1, 1) := by decide +kernel
theorem dX2_flow_93 : decode mX2_flow.2.1 93 = .ok (.bipush 64, 2) := by decide +kernel
theorem dX2_flow_95 : decode mX2_flow.2.1 95 = .ok (.if_icmp .ge 24, 3) := by decide +kernel
theorem dX2_flow_98 : decode mX2_flow.2.1 98 = .ok (.aload_n 0, 1) := by decide +kernel
theorem dX2_flow_99 : decode mX2_flow.2.1 99 = .ok (.getfield 15, 3) := by decide +kernel
theorem dX2_flow_102 : decode mX2_flow.2.1 102 = .ok (.iload_n 1, 1) := by decide +kernel
theorem dX2_flow_103 : decode mX2_flow.2.1 103 = .ok (.dup2, 1) := by decide +kernel
theorem dX2_flow_104 : decode mX2_flow.2.1 104 = .ok (.iaload, 1) := by decide +kernel
theorem dX2_flow_105 : decode mX2_flow.2.1 105 = .ok (.aload_n 0, 1) := by decide +kernel
theorem dX2_flow_106 : decode mX2_flow.2.1 106 = .ok (.getfield 21, 3) := by decide +kernel
theorem dX2_flow_109 : decode mX2_flow.2.1 109 = .ok (.iload_n 1, 1) := by decide +kernel
theorem dX2_flow_110 : decode mX2_flow.2.1 110 = .ok (.iaload, 1) := by decide +kernel
theorem dX2_flow_111 : decode mX2_flow.2.1 111 = .ok (.iadd, 1) := by decide +kernel
theorem dX2_flow_112 : decode mX2_flow.2.1 112 = .ok (.iastore, 1) := by decide +kernel
theorem dX2_flow_113 : decode mX2_flow.2.1 113 = .ok (.iinc 1 1, 3) := by decide +kernel
theorem dX2_flow_116 : decode mX2_flow.2.1 116 = .ok (.goto (-24), 3) := by decide +kernel
theorem dX2_flow_119 : decode mX2_flow.2.1 119 = .ok (.return_, 1) := by decide +kernel
theorem dX4_spotOf_0 : decode mX4_spotOf.2.1 0 = .ok (.lload_n 2, 1) := by decide +kernel
theorem dX4_spotOf_1 : decode mX4_spotOf.2.1 1 = .ok (.lconst 0, 1) := by decide +kernel
theorem dX4_spotOf_2 : decode mX4_spotOf.2.1 2 = .ok (.lcmp, 1) := by decide +kernel
theorem dX4_spotOf_3 : decode mX4_spotOf.2.1 3 = .ok (.ifCond .ne 5, 3) := by decide +kernel
theorem dX4_spotOf_6 : decode mX4_spotOf.2.1 6 = .ok (.iconst (-1), 1) := by decide +kernel
theorem dX4_spotOf_7 : decode mX4_spotOf.2.1 7 = .ok (.ireturn, 1) := by decide +kernel
theorem dX4_spotOf_8 : decode mX4_spotOf.2.1 8 = .ok (.iconst 0, 1) := by decide +kernel
theorem dX4_spotOf_9 : decode mX4_spotOf.2.1 9 = .ok (.istore 6, 2) := by decide +kernel
theorem dX4_spotOf_11 : decode mX4_spotOf.2.1 11 = .ok (.iconst 0, 1) := by decide +kernel
theorem dX4_spotOf_12 : decode mX4_spotOf.2.1 12 = .ok (.istore 7, 2) := by decide +kernel
theorem dX4_spotOf_14 : decode mX4_spotOf.2.1 14 = .ok (.iload 7, 2) := by decide +kernel
theorem dX4_spotOf_16 : decode mX4_spotOf.2.1 16 = .ok (.bipush 64, 2) := by decide +kernel
theorem dX4_spotOf_18 : decode mX4_spotOf.2.1 18 = .ok (.if_icmp .ge 59, 3) := by decide +kernel
theorem dX4_spotOf_21 : decode mX4_spotOf.2.1 21 = .ok (.lload_n 0, 1) := by decide +kernel
theorem dX4_spotOf_22 : decode mX4_spotOf.2.1 22 = .ok (.iload 7, 2) := by decide +kernel
theorem dX4_spotOf_24 : decode mX4_spotOf.2.1 24 = .ok (.invokestatic 9, 3) := by decide +kernel
theorem dX4_spotOf_27 : decode mX4_spotOf.2.1 27 = .ok (.land, 1) := by decide +kernel
theorem dX4_spotOf_28 : decode mX4_spotOf.2.1 28 = .ok (.lconst 0, 1) := by decide +kernel
theorem dX4_spotOf_29 : decode mX4_spotOf.2.1 29 = .ok (.lcmp, 1) := by decide +kernel
theorem dX4_spotOf_30 : decode mX4_spotOf.2.1 30 = .ok (.ifCond .eq 41, 3) := by decide +kernel
theorem dX4_spotOf_33 : decode mX4_spotOf.2.1 33 = .ok (.lload_n 2, 1) := by decide +kernel
theorem dX4_spotOf_34 : decode mX4_spotOf.2.1 34 = .ok (.iload 7, 2) := by decide +kernel
theorem dX4_spotOf_36 : decode mX4_spotOf.2.1 36 = .ok (.invokestatic 9, 3) := by decide +kernel
theorem dX4_spotOf_39 : decode mX4_spotOf.2.1 39 = .ok (.lload_n 0, 1) := by decide +kernel
theorem dX4_spotOf_40 : decode mX4_spotOf.2.1 40 = .ok (.iload 4, 2) := by decide +kernel
theorem dX4_spotOf_42 : decode mX4_spotOf.2.1 42 = .ok (.invokestatic 13, 3) := by decide +kernel
theorem dX4_spotOf_45 : decode mX4_spotOf.2.1 45 = .ok (.ldc2_w 19, 3) := by decide +kernel
theorem dX4_spotOf_48 : decode mX4_spotOf.2.1 48 = .ok (.lxor, 1) := by decide +kernel
theorem dX4_spotOf_49 : decode mX4_spotOf.2.1 49 = .ok (.land, 1) := by decide +kernel
theorem dX4_spotOf_50 : decode mX4_spotOf.2.1 50 = .ok (.lconst 0, 1) := by decide +kernel
theorem dX4_spotOf_51 : decode mX4_spotOf.2.1 51 = .ok (.lcmp, 1) := by decide +kernel
theorem dX4_spotOf_52 : decode mX4_spotOf.2.1 52 = .ok (.ifCond .eq 6, 3) := by decide +kernel
theorem dX4_spotOf_55 : decode mX4_spotOf.2.1 55 = .ok (.goto 16, 3) := by decide +kernel
theorem dX4_spotOf_58 : decode mX4_spotOf.2.1 58 = .ok (.iload 6, 2) := by decide +kernel
theorem dX4_spotOf_60 : decode mX4_spotOf.2.1 60 = .ok (.iload 5, 2) := by decide +kernel
theorem dX4_spotOf_62 : decode mX4_spotOf.2.1 62 = .ok (.if_icmp .ne 6, 3) := by decide +kernel
theorem dX4_spotOf_65 : decode mX4_spotOf.2.1 65 = .ok (.iload 7, 2) := by decide +kernel
theorem dX4_spotOf_67 : decode mX4_spotOf.2.1 67 = .ok (.ireturn, 1) := by decide +kernel
theorem dX4_spotOf_68 : decode mX4_spotOf.2.1 68 = .ok (.iinc 6 1, 3) := by decide +kernel
theorem dX4_spotOf_71 : decode mX4_spotOf.2.1 71 = .ok (.iinc 7 1, 3) := by decide +kernel
theorem dX4_spotOf_74 : decode mX4_spotOf.2.1 74 = .ok (.goto (-60), 3) := by decide +kernel
theorem dX4_spotOf_77 : decode mX4_spotOf.2.1 77 = .ok (.iconst (-1), 1) := by decide +kernel
theorem dX4_spotOf_78 : decode mX4_spotOf.2.1 78 = .ok (.ireturn, 1) := by decide +kernel
theorem dX4_cellsReached_0 : decode mX4_cellsReached.2.1 0 = .ok (.lload_n 0, 1) := by decide +kernel
theorem dX4_cellsReached_1 : decode mX4_cellsReached.2.1 1 = .ok (.lstore 8, 2) := by decide +kernel
theorem dX4_cellsReached_3 : decode mX4_cellsReached.2.1 3 = .ok (.iconst 0, 1) := by decide +kernel
theorem dX4_cellsReached_4 : decode mX4_cellsReached.2.1 4 = .ok (.istore 10, 2) := by decide +kernel
theorem dX4_cellsReached_6 : decode mX4_cellsReached.2.1 6 = .ok (.iconst 0, 1) := by decide +kernel
theorem dX4_cellsReached_7 : decode mX4_cellsReached.2.1 7 = .ok (.istore 11, 2) := by decide +kernel
theorem dX4_cellsReached_9 : decode mX4_cellsReached.2.1 9 = .ok (.iload 11, 2) := by decide +kernel
theorem dX4_cellsReached_11 : decode mX4_cellsReached.2.1 11 = .ok (.bipush 64, 2) := by decide +kernel
theorem dX4_cellsReached_13 : decode mX4_cellsReached.2.1 13 = .ok (.if_icmp .ge 58, 3) := by decide +kernel
theorem dX4_cellsReached_16 : decode mX4_cellsReached.2.1 16 = .ok (.iload 7, 2) := by decide +kernel
theorem dX4_cellsReached_18 : decode mX4_cellsReached.2.1 18 = .ok (.iload 10, 2) := by decide +kernel
theorem dX4_cellsReached_20 : decode mX4_cellsReached.2.1 20 = .ok (.ishr, 1) := by decide +kernel
theorem dX4_cellsReached_21 : decode mX4_cellsReached.2.1 21 = .ok (.ifCond .eq 50, 3) := by decide +kernel
theorem dX4_cellsReached_24 : decode mX4_cellsReached.2.1 24 = .ok (.lload 5, 2) := by decide +kernel
theorem dX4_cellsReached_26 : decode mX4_cellsReached.2.1 26 = .ok (.iload 11, 2) := by decide +kernel
theorem dX4_cellsReached_28 : decode mX4_cellsReached.2.1 28 = .ok (.invokestatic 9, 3) := by decide +kernel
theorem dX4_cellsReached_31 : decode mX4_cellsReached.2.1 31 = .ok (.land, 1) := by decide +kernel
theorem dX4_cellsReached_32 : decode mX4_cellsReached.2.1 32 = .ok (.lconst 0, 1) := by decide +kernel
theorem dX4_cellsReached_33 : decode mX4_cellsReached.2.1 33 = .ok (.lcmp, 1) := by decide +kernel
theorem dX4_cellsReached_34 : decode mX4_cellsReached.2.1 34 = .ok (.ifCond .eq 31, 3) := by decide +kernel
theorem dX4_cellsReached_37 : decode mX4_cellsReached.2.1 37 = .ok (.iload 7, 2) := by decide +kernel
theorem dX4_cellsReached_39 : decode mX4_cellsReached.2.1 39 = .ok (.iload 10, 2) := by decide +kernel
theorem dX4_cellsReached_41 : decode mX4_cellsReached.2.1 41 = .ok (.ishr, 1) := by decide +kernel
theorem dX4_cellsReached_42 : decode mX4_cellsReached.2.1 42 = .ok (.iconst 1, 1) := by decide +kernel
theorem dX4_cellsReached_43 : decode mX4_cellsReached.2.1 43 = .ok (.iand, 1) := by decide +kernel
theorem dX4_cellsReached_44 : decode mX4_cellsReached.2.1 44 = .ok (.iconst 1, 1) := by decide +kernel
theorem dX4_cellsReached_45 : decode mX4_cellsReached.2.1 45 = .ok (.if_icmp .ne 17, 3) := by decide +kernel
theorem dX4_cellsReached_48 : decode mX4_cellsReached.2.1 48 = .ok (.lload 8, 2) := by decide +kernel
theorem dX4_cellsReached_50 : decode mX4_cellsReached.2.1 50 = .ok (.iload 11, 2) := by decide +kernel
theorem dX4_cellsReached_52 : decode mX4_cellsReached.2.1 52 = .ok (.invokestatic 9, 3) := by decide +kernel
theorem dX4_cellsReached_55 : decode mX4_cellsReached.2.1 55 = .ok (.ldc2_w 19, 3) := by decide +kernel
theorem dX4_cellsReached_58 : decode mX4_cellsReached.2.1 58 = .ok (.lxor, 1) := by decide +kernel
theorem dX4_cellsReached_59 : decode mX4_cellsReached.2.1 59 = .ok (.land, 1) := by decide +kernel
theorem dX4_cellsReached_60 : decode mX4_cellsReached.2.1 60 = .ok (.lstore 8, 2) := by decide +kernel
theorem dX4_cellsReached_62 : decode mX4_cellsReached.2.1 62 = .ok (.iinc 10 1, 3) := by decide +kernel
theorem dX4_cellsReached_65 : decode mX4_cellsReached.2.1 65 = .ok (.iinc 11 1, 3) := by decide +kernel
theorem dX4_cellsReached_68 : decode mX4_cellsReached.2.1 68 = .ok (.goto (-59), 3) := by decide +kernel
theorem dX4_cellsReached_71 : decode mX4_cellsReached.2.1 71 = .ok (.lload_n 2, 1) := by decide +kernel
theorem dX4_cellsReached_72 : decode mX4_cellsReached.2.1 72 = .ok (.lload 8, 2) := by decide +kernel
theorem dX4_cellsReached_74 : decode mX4_cellsReached.2.1 74 = .ok (.iload 4, 2) := by decide +kernel
theorem dX4_cellsReached_76 : decode mX4_cellsReached.2.1 76 = .ok (.invokestatic 13, 3) := by decide +kernel
theorem dX4_cellsReached_79 : decode mX4_cellsReached.2.1 79 = .ok (.invokestatic 25, 3) := by decide +kernel
theorem dX4_cellsReached_82 : decode mX4_cellsReached.2.1 82 = .ok (.ireturn, 1) := by decide +kernel
theorem dX4_pullOf_0 : decode mX4_pullOf.2.1 0 = .ok (.lload_n 2, 1) := by decide +kernel
theorem dX4_pullOf_1 : decode mX4_pullOf.2.1 1 = .ok (.lload_n 0, 1) := by decide +kernel
theorem dX4_pullOf_2 : decode mX4_pullOf.2.1 2 = .ok (.invokestatic 21, 3) := by decide +kernel
theorem dX4_pullOf_5 : decode mX4_pullOf.2.1 5 = .ok (.lload_n 2, 1) := by decide +kernel
theorem dX4_pullOf_6 : decode mX4_pullOf.2.1 6 = .ok (.ldc2_w 19, 3) := by decide +kernel
theorem dX4_pullOf_9 : decode mX4_pullOf.2.1 9 = .ok (.lxor, 1) := by decide +kernel
theorem dX4_pullOf_10 : decode mX4_pullOf.2.1 10 = .ok (.land, 1) := by decide +kernel
theorem dX4_pullOf_11 : decode mX4_pullOf.2.1 11 = .ok (.lstore 7, 2) := by decide +kernel
theorem dX4_pullOf_13 : decode mX4_pullOf.2.1 13 = .ok (.bipush 8, 2) := by decide +kernel
theorem dX4_pullOf_15 : decode mX4_pullOf.2.1 15 = .ok (.lload 7, 2) := by decide +kernel
theorem dX4_pullOf_17 : decode mX4_pullOf.2.1 17 = .ok (.invokestatic 25, 3) := by decide +kernel
theorem dX4_pullOf_20 : decode mX4_pullOf.2.1 20 = .ok (.invokestatic 31, 3) := by decide +kernel
theorem dX4_pullOf_23 : decode mX4_pullOf.2.1 23 = .ok (.istore 9, 2) := by decide +kernel
theorem dX4_pullOf_25 : decode mX4_pullOf.2.1 25 = .ok (.iload 6, 2) := by decide +kernel
theorem dX4_pullOf_27 : decode mX4_pullOf.2.1 27 = .ok (.bipush 10, 2) := by decide +kernel
theorem dX4_pullOf_29 : decode mX4_pullOf.2.1 29 = .ok (.bipush 9, 2) := by decide +kernel
theorem dX4_pullOf_31 : decode mX4_pullOf.2.1 31 = .ok (.iload 9, 2) := by decide +kernel
theorem dX4_pullOf_33 : decode mX4_pullOf.2.1 33 = .ok (.iadd, 1) := by decide +kernel
theorem dX4_pullOf_34 : decode mX4_pullOf.2.1 34 = .ok (.invokestatic 37, 3) := by decide +kernel
theorem dX4_pullOf_37 : decode mX4_pullOf.2.1 37 = .ok (.ifCond .eq 14, 3) := by decide +kernel
theorem dX4_pullOf_40 : decode mX4_pullOf.2.1 40 = .ok (.lload 7, 2) := by decide +kernel
theorem dX4_pullOf_42 : decode mX4_pullOf.2.1 42 = .ok (.iload 6, 2) := by decide +kernel
theorem dX4_pullOf_44 : decode mX4_pullOf.2.1 44 = .ok (.bipush 10, 2) := by decide +kernel
theorem dX4_pullOf_46 : decode mX4_pullOf.2.1 46 = .ok (.isub, 1) := by decide +kernel
theorem dX4_pullOf_47 : decode mX4_pullOf.2.1 47 = .ok (.invokestatic 41, 3) := by decide +kernel
theorem dX4_pullOf_50 : decode mX4_pullOf.2.1 50 = .ok (.ireturn, 1) := by decide +kernel
theorem dX4_pullOf_51 : decode mX4_pullOf.2.1 51 = .ok (.iload 6, 2) := by decide +kernel
theorem dX4_pullOf_53 : decode mX4_pullOf.2.1 53 = .ok (.ifCond .eq 20, 3) := by decide +kernel
theorem dX4_pullOf_56 : decode mX4_pullOf.2.1 56 = .ok (.iload 6, 2) := by decide +kernel
theorem dX4_pullOf_58 : decode mX4_pullOf.2.1 58 = .ok (.bipush 20, 2) := by decide +kernel
theorem dX4_pullOf_60 : decode mX4_pullOf.2.1 60 = .ok (.bipush 19, 2) := by decide +kernel
theorem dX4_pullOf_62 : decode mX4_pullOf.2.1 62 = .ok (.iload 9, 2) := by decide +kernel
theorem dX4_pullOf_64 : decode mX4_pullOf.2.1 64 = .ok (.iadd, 1) := by decide +kernel
theorem dX4_pullOf_65 : decode mX4_pullOf.2.1 65 = .ok (.invokestatic 37, 3) := by decide +kernel
theorem dX4_pullOf_68 : decode mX4_pullOf.2.1 68 = .ok (.ifCond .ne 5, 3) := by decide +kernel
theorem dX4_pullOf_71 : decode mX4_pullOf.2.1 71 = .ok (.iconst (-1), 1) := by decide +kernel
theorem dX4_pullOf_72 : decode mX4_pullOf.2.1 72 = .ok (.ireturn, 1) := by decide +kernel
theorem dX4_pullOf_73 : decode mX4_pullOf.2.1 73 = .ok (.iconst 0, 1) := by decide +kernel
theorem dX4_pullOf_74 : decode mX4_pullOf.2.1 74 = .ok (.istore 10, 2) := by decide +kernel
theorem dX4_pullOf_76 : decode mX4_pullOf.2.1 76 = .ok (.lload_n 0, 1) := by decide +kernel
theorem dX4_pullOf_77 : decode mX4_pullOf.2.1 77 = .ok (.lload_n 2, 1) := by decide +kernel
theorem dX4_pullOf_78 : decode mX4_pullOf.2.1 78 = .ok (.iload 5, 2) := by decide +kernel
theorem dX4_pullOf_80 : decode mX4_pullOf.2.1 80 = .ok (.lload 7, 2) := by decide +kernel
theorem dX4_pullOf_82 : decode mX4_pullOf.2.1 82 = .ok (.iconst 0, 1) := by decide +kernel
theorem dX4_pullOf_83 : decode mX4_pullOf.2.1 83 = .ok (.invokestatic 45, 3) := by decide +kernel
theorem dX4_pullOf_86 : decode mX4_pullOf.2.1 86 = .ok (.istore 11, 2) := by decide +kernel
theorem dX4_pullOf_88 : decode mX4_pullOf.2.1 88 = .ok (.iconst 1, 1) := by decide +kernel
theorem dX4_pullOf_89 : decode mX4_pullOf.2.1 89 = .ok (.istore 12, 2) := by decide +kernel
theorem dX4_pullOf_91 : decode mX4_pullOf.2.1 91 = .ok (.iload 12, 2) := by decide +kernel
theorem dX4_pullOf_93 : decode mX4_pullOf.2.1 93 = .ok (.iconst 1, 1) := by decide +kernel
theorem dX4_pullOf_94 : decode mX4_pullOf.2.1 94 = .ok (.iload 9, 2) := by decide +kernel
theorem dX4_pullOf_96 : decode mX4_pullOf.2.1 96 = .ok (.ishl, 1) := by decide +kernel
theorem dX4_pullOf_97 : decode mX4_pullOf.2.1 97 = .ok (.if_icmp .ge 70, 3) := by decide +kernel
theorem dX4_pullOf_100 : decode mX4_pullOf.2.1 100 = .ok (.iload 12, 2) := by decide +kernel
theorem dX4_pullOf_102 : decode mX4_pullOf.2.1 102 = .ok (.invokestatic 49, 3) := by decide +kernel
theorem dX4_pullOf_105 : decode mX4_pullOf.2.1 105 = .ok (.iload 4, 2) := by decide +kernel
theorem dX4_pullOf_107 : decode mX4_pullOf.2.1 107 = .ok (.if_icmp .le 6, 3) := by decide +kernel
theorem dX4_pullOf_110 : decode mX4_pullOf.2.1 110 = .ok (.goto 51, 3) := by decide +kernel
theorem dX4_pullOf_113 : decode mX4_pullOf.2.1 113 = .ok (.lload_n 0, 1) := by decide +kernel
theorem dX4_pullOf_114 : decode mX4_pullOf.2.1 114 = .ok (.lload_n 2, 1) := by decide +kernel
theorem dX4_pullOf_115 : decode mX4_pullOf.2.1 115 = .ok (.iload 5, 2) := by decide +kernel
theorem dX4_pullOf_117 : decode mX4_pullOf.2.1 117 = .ok (.lload 7, 2) := by decide +kernel
theorem dX4_pullOf_119 : decode mX4_pullOf.2.1 119 = .ok (.iload 12, 2) := by decide +kernel
theorem dX4_pullOf_121 : decode mX4_pullOf.2.1 121 = .ok (.invokestatic 45, 3) := by decide +kernel
theorem dX4_pullOf_124 : decode mX4_pullOf.2.1 124 = .ok (.istore 13, 2) := by decide +kernel
theorem dX4_pullOf_126 : decode mX4_pullOf.2.1 126 = .ok (.iload 13, 2) := by decide +kernel
theorem dX4_pullOf_128 : decode mX4_pullOf.2.1 128 = .ok (.iload 11, 2) := by decide +kernel
theorem dX4_pullOf_130 : decode mX4_pullOf.2.1 130 = .ok (.if_icmp .lt 23, 3) := by decide +kernel
theorem dX4_pullOf_133 : decode mX4_pullOf.2.1 133 = .ok (.iload 13, 2) := by decide +kernel
theorem dX4_pullOf_135 : decode mX4_pullOf.2.1 135 = .ok (.iload 11, 2) := by decide +kernel
theorem dX4_pullOf_137 : decode mX4_pullOf.2.1 137 = .ok (.if_icmp .ne 24, 3) := by decide +kernel
theorem dX4_pullOf_140 : decode mX4_pullOf.2.1 140 = .ok (.iload 12, 2) := by decide +kernel
theorem dX4_pullOf_142 : decode mX4_pullOf.2.1 142 = .ok (.invokestatic 49, 3) := by decide +kernel
theorem dX4_pullOf_145 : decode mX4_pullOf.2.1 145 = .ok (.iload 10, 2) := by decide +kernel
theorem dX4_pullOf_147 : decode mX4_pullOf.2.1 147 = .ok (.invokestatic 49, 3) := by decide +kernel
theorem dX4_pullOf_150 : decode mX4_pullOf.2.1 150 = .ok (.if_icmp .ge 11, 3) := by decide +kernel
theorem dX4_pullOf_153 : decode mX4_pullOf.2.1 153 = .ok (.iload 12, 2) := by decide +kernel
theorem dX4_pullOf_155 : decode mX4_pullOf.2.1 155 = .ok (.istore 10, 2) := by decide +kernel
theorem dX4_pullOf_157 : decode mX4_pullOf.2.1 157 = .ok (.iload 13, 2) := by decide +kernel
theorem dX4_pullOf_159 : decode mX4_pullOf.2.1 159 = .ok (.istore 11, 2) := by decide +kernel
theorem dX4_pullOf_161 : decode mX4_pullOf.2.1 161 = .ok (.iinc 12 1, 3) := by decide +kernel
theorem dX4_pullOf_164 : decode mX4_pullOf.2.1 164 = .ok (.goto (-73), 3) := by decide +kernel
theorem dX4_pullOf_167 : decode mX4_pullOf.2.1 167 = .ok (.iload 6, 2) := by decide +kernel
theorem dX4_pullOf_169 : decode mX4_pullOf.2.1 169 = .ok (.ifCond .ne 8, 3) := by decide +kernel
theorem dX4_pullOf_172 : decode mX4_pullOf.2.1 172 = .ok (.iload 11, 2) := by decide +kernel
theorem dX4_pullOf_174 : decode mX4_pullOf.2.1 174 = .ok (.goto 13, 3) := by decide +kernel
theorem dX4_pullOf_177 : decode mX4_pullOf.2.1 177 = .ok (.iload 10, 2) := by decide +kernel
theorem dX4_pullOf_179 : decode mX4_pullOf.2.1 179 = .ok (.iload 6, 2) := by decide +kernel
theorem dX4_pullOf_181 : decode mX4_pullOf.2.1 181 = .ok (.bipush 20, 2) := by decide +kernel
theorem dX4_pullOf_183 : decode mX4_pullOf.2.1 183 = .ok (.isub, 1) := by decide +kernel
theorem dX4_pullOf_184 : decode mX4_pullOf.2.1 184 = .ok (.ishr, 1) := by decide +kernel
theorem dX4_pullOf_185 : decode mX4_pullOf.2.1 185 = .ok (.iconst 1, 1) := by decide +kernel
theorem dX4_pullOf_186 : decode mX4_pullOf.2.1 186 = .ok (.iand, 1) := by decide +kernel
theorem dX4_pullOf_187 : decode mX4_pullOf.2.1 187 = .ok (.ireturn, 1) := by decide +kernel
def w_X2_begin (b : Nat) (M : am_I) (N : am_N) (post : am_I → am_N → Prop) : Prop :=
  post (am_fill (am_fill (am_fill M (1, b, 2) 64 0) (1, b, 3) 64 0) (1, b, 4) 64 0) (am_ul (am_ul N (1, b, 1) 4 0) (1, b, 1) 5 0)
set_option maxRecDepth 10000 in
theorem k_X2_begin {d : Nat} {dm : List am_C} {b : Nat} (h1b : am_d1 dm b) {M : am_I} {N : am_N} {post : am_I → am_N → Prop} (h : w_X2_begin b M N post) : jg (d + 2) mX2_begin dm 0 [(0, .inr (.inr (1, b, 1)))] [] M N (am_pv post) := by
  refine j_aload_n 0 dX2_begin_0 rfl ?_
  refine j_getR (b := (1, b, 2)) dX2_begin_1 fsRX2_9 (h1b 1 (by decide)) rfl rfl ?_
  refine j_iconst (v := 0) dX2_begin_4 (by decide) ?_
  refine j_invS (As := [.inr (.inr (1, b, 2)), .inl 0]) dX2_begin_5 msRX2_24 mbJ7_fill_53178 rfl rfl (Nat.le_of_ble_eq_true rfl) (Nat.le_of_ble_eq_true rfl) (by omega) (k_J7_fill_53178 (d := d) (h1b 2 (by decide)) rfl (by decide)) ?_
  rintro _ _ _ ⟨rfl, rfl, rfl⟩
  refine j_aload_n 0 dX2_begin_8 rfl ?_
  refine j_getR (b := (1, b, 3)) dX2_begin_9 fsRX2_15 (h1b 1 (by decide)) rfl rfl ?_
  refine j_iconst (v := 0) dX2_begin_12 (by decide) ?_
  refine j_invS (As := [.inr (.inr (1, b, 3)), .inl 0]) dX2_begin_13 msRX2_24 mbJ7_fill_53178 rfl rfl (Nat.le_of_ble_eq_true rfl) (Nat.le_of_ble_eq_true rfl) (by omega) (k_J7_fill_53178 (d := d) (h1b 3 (by decide)) rfl (by decide)) ?_
  rintro _ _ _ ⟨rfl, rfl, rfl⟩
  refine j_aload_n 0 dX2_begin_16 rfl ?_
  refine j_getR (b := (1, b, 4)) dX2_begin_17 fsRX2_18 (h1b 1 (by decide)) rfl rfl ?_
  refine j_iconst (v := 0) dX2_begin_20 (by decide) ?_
  refine j_invS (As := [.inr (.inr (1, b, 4)), .inl 0]) dX2_begin_21 msRX2_24 mbJ7_fill_53178 rfl rfl (Nat.le_of_ble_eq_true rfl) (Nat.le_of_ble_eq_true rfl) (by omega) (k_J7_fill_53178 (d := d) (h1b 4 (by decide)) rfl (by decide)) ?_
  rintro _ _ _ ⟨rfl, rfl, rfl⟩
  refine j_aload_n 0 dX2_begin_24 rfl ?_
  refine j_lconst (v := 0) dX2_begin_25 (by decide) ?_
  refine j_putL dX2_begin_26 fwRX2_30 (h1b 1 (by decide)) rfl ?_
  refine j_aload_n 0 dX2_begin_29 rfl ?_
  refine j_lconst (v := 0) dX2_begin_30 (by decide) ?_
  refine j_putL dX2_begin_31 fwRX2_34 (h1b 1 (by decide)) rfl ?_
  exact j_vret dX2_begin_34 rfl ⟨rfl, h⟩
def w_X2_rainOn_p7_b (b : Nat) (post : am_I → am_N → Prop) (zk7 : Int32 → Int32 → am_I → am_N → Prop) (l1 : Int32) (l2 : Int32) (M : am_I) (N : am_N) : Prop :=
  ((64 ≤ l2 → post M (am_ul N (1, b, 1) 4 ((N (1, b, 1) 4) + (l1.toInt64 * 64)))) ∧ (¬ 64 ≤ l2 → vp_in l2 64 ∧ vp_in l2 64 ∧ zk7 l1 (l2 + 1) (am_u M (1, b, 3) l2.toNatClampNeg ((M (1, b, 3) l2.toNatClampNeg) + l1)) N))
noncomputable def w_X2_rainOn_p7 (b : Nat) (post : am_I → am_N → Prop) (n : Nat) : Int32 → Int32 → am_I → am_N → Prop :=
  Nat.rec (motive := fun _ => Int32 → Int32 → am_I → am_N → Prop) (fun _ _ _ _ => False) (fun _ zk => w_X2_rainOn_p7_b b post zk) n
theorem w_X2_rainOn_p7_s (b : Nat) (post : am_I → am_N → Prop) (n : Nat) (l1 : Int32) (l2 : Int32) (M : am_I) (N : am_N) : w_X2_rainOn_p7 b post (n + 1) l1 l2 M N = w_X2_rainOn_p7_b b post (w_X2_rainOn_p7 b post n) l1 l2 M N := rfl
set_option maxRecDepth 10000 in
theorem k_X2_rainOn_p7 {d : Nat} {dm : List am_C} {b : Nat} (h1b : am_d1 dm b) {post : am_I → am_N → Prop} : ∀ (n : Nat) (l1 : Int32) (l2 : Int32) (M : am_I) (N : am_N), w_X2_rainOn_p7 b post n l1 l2 M N → jg (d + 1) mX2_rainOn dm 7 [(0, .inr (.inr (1, b, 1))), (1, .inl l1), (2, .inl l2)] [] M N (am_pv post) := by
  intro n
  induction n with
  | zero => intro l1 l2 M N h; exact h.elim
  | succ n zih =>
    intro l1 l2 M N h
    replace h : w_X2_rainOn_p7_b b post (w_X2_rainOn_p7 b post n) l1 l2 M N := h
    refine j_iload_n 2 dX2_rainOn_7 rfl ?_
    refine j_bipush (v := 64) dX2_rainOn_8 (by decide) ?_
    refine j_icmp_ge (tgt := 29) dX2_rainOn_10 (by decide) (fun hc => ?_) (fun hc => ?_)
    · replace h := h.1 hc
      refine j_aload_n 0 dX2_rainOn_29 rfl ?_
      refine j_dup dX2_rainOn_30 rfl ?_
      refine j_getL dX2_rainOn_31 fsRX2_30 (h1b 1 (by decide)) rfl ?_
      refine j_iload_n 1 dX2_rainOn_34 rfl ?_
      refine j_i2l dX2_rainOn_35 ?_
      refine j_ldc2 (v := 64) dX2_rainOn_36 cw_732 ?_
      refine j_lmul dX2_rainOn_39 ?_
      refine j_ladd dX2_rainOn_40 ?_
      refine j_putL dX2_rainOn_41 fwRX2_30 (h1b 1 (by decide)) rfl ?_
      exact j_vret dX2_rainOn_44 rfl ⟨rfl, h⟩
    · replace h := h.2 hc
      refine j_aload_n 0 dX2_rainOn_13 rfl ?_
      refine j_getR (b := (1, b, 3)) dX2_rainOn_14 fsRX2_15 (h1b 1 (by decide)) rfl rfl ?_
      refine j_iload_n 2 dX2_rainOn_17 rfl ?_
      refine j_dup2 dX2_rainOn_18 rfl rfl ?_
      obtain ⟨hq, h⟩ := h
      refine j_iald dX2_rainOn_19 (h1b 3 (by decide)) rfl hq ?_
      refine j_iload_n 1 dX2_rainOn_20 rfl ?_
      refine j_iadd dX2_rainOn_21 ?_
      obtain ⟨hq, h⟩ := h
      refine j_iast dX2_rainOn_22 (h1b 3 (by decide)) rfl hq ?_
      refine j_iinc 2 dX2_rainOn_23 rfl rfl (by decide) rfl ?_
      refine j_goto (tgt := 7) dX2_rainOn_26 (by decide) ?_
      refine j_sub [1, 2, 0] rfl ?_
      exact zih _ _ _ _ h
def w_X2_rainOn (b : Nat) (a1 : Int32) (M : am_I) (N : am_N) (post : am_I → am_N → Prop) : Prop :=
  ((¬ a1 = 0 → ∃ n, w_X2_rainOn_p7 b post n a1 0 M N) ∧ (a1 = 0 → post M N))
set_option maxRecDepth 10000 in
theorem k_X2_rainOn {d : Nat} {dm : List am_C} {b : Nat} (h1b : am_d1 dm b) {a1 : Int32} {M : am_I} {N : am_N} {post : am_I → am_N → Prop} (h : w_X2_rainOn b a1 M N post) : jg (d + 1) mX2_rainOn dm 0 [(0, .inr (.inr (1, b, 1))), (1, .inl a1)] [] M N (am_pv post) := by
  refine j_iload_n 1 dX2_rainOn_0 rfl ?_
  refine j_if_ne (tgt := 5) dX2_rainOn_1 (by decide) (fun hc => ?_) (fun hc => ?_)
  · replace h := h.1 hc
    refine j_iconst (v := 0) dX2_rainOn_5 (by decide) ?_
    refine j_istore_n dX2_rainOn_6 (by decide) rfl ?_
    refine j_sub [1, 2, 0] rfl ?_
    obtain ⟨n, h⟩ := h
    exact k_X2_rainOn_p7 h1b n _ _ _ _ h
  · replace h := h.2 hc
    exact j_vret dX2_rainOn_4 rfl ⟨rfl, h⟩
def w_X2_dry_p2_b (b : Nat) (post : am_I → am_N → Prop) (zk2 : Int32 → am_I → am_N → Prop) (l1 : Int32) (M : am_I) (N : am_N) : Prop :=
  ((64 ≤ l1 → post M N) ∧ (¬ 64 ≤ l1 → vp_in l1 64 ∧ (((M (1, b, 3) l1.toNatClampNeg) ≤ 0 → zk2 (l1 + 1) M N) ∧ (¬ (M (1, b, 3) l1.toNatClampNeg) ≤ 0 → vp_in l1 64 ∧ vp_in l1 64 ∧ zk2 (l1 + 1) (am_u M (1, b, 3) l1.toNatClampNeg ((M (1, b, 3) l1.toNatClampNeg) - 1)) (am_ul N (1, b, 1) 5 ((N (1, b, 1) 5) + 1))))))
noncomputable def w_X2_dry_p2 (b : Nat) (post : am_I → am_N → Prop) (n : Nat) : Int32 → am_I → am_N → Prop :=
  Nat.rec (motive := fun _ => Int32 → am_I → am_N → Prop) (fun _ _ _ => False) (fun _ zk => w_X2_dry_p2_b b post zk) n
theorem w_X2_dry_p2_s (b : Nat) (post : am_I → am_N → Prop) (n : Nat) (l1 : Int32) (M : am_I) (N : am_N) : w_X2_dry_p2 b post (n + 1) l1 M N = w_X2_dry_p2_b b post (w_X2_dry_p2 b post n) l1 M N := rfl
set_option maxRecDepth 10000 in
theorem k_X2_dry_p2 {d : Nat} {dm : List am_C} {b : Nat} (h1b : am_d1 dm b) {post : am_I → am_N → Prop} : ∀ (n : Nat) (l1 : Int32) (M : am_I) (N : am_N), w_X2_dry_p2 b post n l1 M N → jg (d + 1) mX2_dry dm 2 [(0, .inr (.inr (1, b, 1))), (1, .inl l1)] [] M N (am_pv post) := by
  intro n
  induction n with
  | zero => intro l1 M N h; exact h.elim
  | succ n zih =>
    intro l1 M N h
    replace h : w_X2_dry_p2_b b post (w_X2_dry_p2 b post n) l1 M N := h
    refine j_iload_n 1 dX2_dry_2 rfl ?_
    refine j_bipush (v := 64) dX2_dry_3 (by decide) ?_
    refine j_icmp_ge (tgt := 43) dX2_dry_5 (by decide) (fun hc => ?_) (fun hc => ?_)
    · replace h := h.1 hc
      exact j_vret dX2_dry_43 rfl ⟨rfl, h⟩
    · replace h := h.2 hc
      refine j_aload_n 0 dX2_dry_8 rfl ?_
      refine j_getR (b := (1, b, 3)) dX2_dry_9 fsRX2_15 (h1b 1 (by decide)) rfl rfl ?_
      refine j_iload_n 1 dX2_dry_12 rfl ?_
      obtain ⟨hq, h⟩ := h
      refine j_iald dX2_dry_13 (h1b 3 (by decide)) rfl hq ?_
      refine j_if_le (tgt := 37) dX2_dry_14 (by decide) (fun hc => ?_) (fun hc => ?_)
      · replace h := h.1 hc
        refine j_iinc 1 dX2_dry_37 rfl rfl (by decide) rfl ?_
        refine j_goto (tgt := 2) dX2_dry_40 (by decide) ?_
        refine j_sub [1, 0] rfl ?_
        exact zih _ _ _ h
      · replace h := h.2 hc
        refine j_aload_n 0 dX2_dry_17 rfl ?_
        refine j_getR (b := (1, b, 3)) dX2_dry_18 fsRX2_15 (h1b 1 (by decide)) rfl rfl ?_
        refine j_iload_n 1 dX2_dry_21 rfl ?_
        refine j_dup2 dX2_dry_22 rfl rfl ?_
        obtain ⟨hq, h⟩ := h
        refine j_iald dX2_dry_23 (h1b 3 (by decide)) rfl hq ?_
        refine j_iconst (v := 1) dX2_dry_24 (by decide) ?_
        refine j_isub dX2_dry_25 ?_
        obtain ⟨hq, h⟩ := h
        refine j_iast dX2_dry_26 (h1b 3 (by decide)) rfl hq ?_
        refine j_aload_n 0 dX2_dry_27 rfl ?_
        refine j_dup dX2_dry_28 rfl ?_
        refine j_getL dX2_dry_29 fsRX2_34 (h1b 1 (by decide)) rfl ?_
        refine j_lconst (v := 1) dX2_dry_32 (by decide) ?_
        refine j_ladd dX2_dry_33 ?_
        refine j_putL dX2_dry_34 fwRX2_34 (h1b 1 (by decide)) rfl ?_
        refine j_iinc 1 dX2_dry_37 rfl rfl (by decide) rfl ?_
        refine j_goto (tgt := 2) dX2_dry_40 (by decide) ?_
        refine j_sub [1, 0] rfl ?_
        exact zih _ _ _ h
def w_X2_dry (b : Nat) (M : am_I) (N : am_N) (post : am_I → am_N → Prop) : Prop :=
  ∃ n, w_X2_dry_p2 b post n 0 M N
set_option maxRecDepth 10000 in
theorem k_X2_dry {d : Nat} {dm : List am_C} {b : Nat} (h1b : am_d1 dm b) {M : am_I} {N : am_N} {post : am_I → am_N → Prop} (h : w_X2_dry b M N post) : jg (d + 1) mX2_dry dm 0 [(0, .inr (.inr (1, b, 1)))] [] M N (am_pv post) := by
  refine j_iconst (v := 0) dX2_dry_0 (by decide) ?_
  refine j_istore_n dX2_dry_1 (by decide) rfl ?_
  refine j_sub [1, 0] rfl ?_
  obtain ⟨n, h⟩ := h
  exact k_X2_dry_p2 h1b n _ _ _ h
def w_X2_allWet_p4_b (b : Nat) (post : Int64 → am_I → am_N → Prop) (zk4 : Int64 → Int32 → am_I → am_N → Prop) (l1 : Int64) (l3 : Int32) (M : am_I) (N : am_N) : Prop :=
  ((64 ≤ l3 → post l1 M N) ∧ (¬ 64 ≤ l3 → vp_in l3 64 ∧ ∀ zv1 : Int64, zv1 = l1 + ((M (1, b, 3) l3.toNatClampNeg).toInt64) → zk4 zv1 (l3 + 1) M N))
noncomputable def w_X2_allWet_p4 (b : Nat) (post : Int64 → am_I → am_N → Prop) (n : Nat) : Int64 → Int32 → am_I → am_N → Prop :=
  Nat.rec (motive := fun _ => Int64 → Int32 → am_I → am_N → Prop) (fun _ _ _ _ => False) (fun _ zk => w_X2_allWet_p4_b b post zk) n
theorem w_X2_allWet_p4_s (b : Nat) (post : Int64 → am_I → am_N → Prop) (n : Nat) (l1 : Int64) (l3 : Int32) (M : am_I) (N : am_N) : w_X2_allWet_p4 b post (n + 1) l1 l3 M N = w_X2_allWet_p4_b b post (w_X2_allWet_p4 b post n) l1 l3 M N := rfl
set_option maxRecDepth 10000 in
theorem k_X2_allWet_p4 {d : Nat} {dm : List am_C} {b : Nat} (h1b : am_d1 dm b) {post : Int64 → am_I → am_N → Prop} : ∀ (n : Nat) (l1 : Int64) (l3 : Int32) (M : am_I) (N : am_N), w_X2_allWet_p4 b post n l1 l3 M N → jg (d + 1) mX2_allWet dm 4 [(0, .inr (.inr (1, b, 1))), (1, .inr (.inl l1)), (3, .inl l3)] [] M N (am_pl post) := by
  intro n
  induction n with
  | zero => intro l1 l3 M N h; exact h.elim
  | succ n zih =>
    intro l1 l3 M N h
    replace h : w_X2_allWet_p4_b b post (w_X2_allWet_p4 b post n) l1 l3 M N := h
    refine j_iload_n 2 dX2_allWet_4 rfl ?_
    refine j_bipush (v := 64) dX2_allWet_5 (by decide) ?_
    refine j_icmp_ge (tgt := 26) dX2_allWet_7 (by decide) (fun hc => ?_) (fun hc => ?_)
    · replace h := h.1 hc
      refine j_lload_n 1 dX2_allWet_26 rfl ?_
      exact j_lret dX2_allWet_27 rfl ⟨_, rfl, h⟩
    · replace h := h.2 hc
      refine j_lload_n 1 dX2_allWet_10 rfl ?_
      refine j_aload_n 0 dX2_allWet_11 rfl ?_
      refine j_getR (b := (1, b, 3)) dX2_allWet_12 fsRX2_15 (h1b 1 (by decide)) rfl rfl ?_
      refine j_iload_n 2 dX2_allWet_15 rfl ?_
      obtain ⟨hq, h⟩ := h
      refine j_iald dX2_allWet_16 (h1b 3 (by decide)) rfl hq ?_
      refine j_i2l dX2_allWet_17 ?_
      refine j_ladd dX2_allWet_18 ?_
      refine j_topl (fun zv1 hzv1 => ?_)
      replace h := h zv1 hzv1
      refine j_lstore_n dX2_allWet_19 (by decide) rfl ?_
      refine j_iinc 2 dX2_allWet_20 rfl rfl (by decide) rfl ?_
      refine j_goto (tgt := 4) dX2_allWet_23 (by decide) ?_
      refine j_sub [2, 1, 0] rfl ?_
      exact zih _ _ _ _ h
def w_X2_allWet (b : Nat) (M : am_I) (N : am_N) (post : Int64 → am_I → am_N → Prop) : Prop :=
  ∃ n, w_X2_allWet_p4 b post n 0 0 M N
set_option maxRecDepth 10000 in
theorem k_X2_allWet {d : Nat} {dm : List am_C} {b : Nat} (h1b : am_d1 dm b) {M : am_I} {N : am_N} {post : Int64 → am_I → am_N → Prop} (h : w_X2_allWet b M N post) : jg (d + 1) mX2_allWet dm 0 [(0, .inr (.inr (1, b, 1)))] [] M N (am_pl post) := by
  refine j_lconst (v := 0) dX2_allWet_0 (by decide) ?_
  refine j_lstore_n dX2_allWet_1 (by decide) rfl ?_
  refine j_iconst (v := 0) dX2_allWet_2 (by decide) ?_
  refine j_istore_n dX2_allWet_3 (by decide) rfl ?_
  refine j_sub [2, 1, 0] rfl ?_
  obtain ⟨n, h⟩ := h
  exact k_X2_allWet_p4 h1b n _ _ _ _ h
def w_X2_heavy (b : Nat) (a1 : Int32) (a2 : Int32) (M : am_I) (N : am_N) (post : Int32 → am_I → am_N → Prop) : Prop :=
  vp_in a2 64 ∧ post (a1 * (1 + ((M (1, b, 3) a2.toNatClampNeg) / 100))) M N
set_option maxRecDepth 10000 in
theorem k_X2_heavy {d : Nat} {dm : List am_C} {b : Nat} (h1b : am_d1 dm b) {a1 : Int32} {a2 : Int32} {M : am_I} {N : am_N} {post : Int32 → am_I → am_N → Prop} (h : w_X2_heavy b a1 a2 M N post) : jg (d + 1) mX2_heavy dm 0 [(0, .inr (.inr (1, b, 1))), (1, .inl a1), (2, .inl a2)] [] M N (am_pi post) := by
  refine j_iload_n 1 dX2_heavy_0 rfl ?_
  refine j_iconst (v := 1) dX2_heavy_1 (by decide) ?_
  refine j_aload_n 0 dX2_heavy_2 rfl ?_
  refine j_getR (b := (1, b, 3)) dX2_heavy_3 fsRX2_15 (h1b 1 (by decide)) rfl rfl ?_
  refine j_iload_n 2 dX2_heavy_6 rfl ?_
  obtain ⟨hq, h⟩ := h
  refine j_iald dX2_heavy_7 (h1b 3 (by decide)) rfl hq ?_
  refine j_bipush (v := 100) dX2_heavy_8 (by decide) ?_
  refine j_idiv dX2_heavy_10 (by decide) ?_
  refine j_iadd dX2_heavy_11 ?_
  refine j_imul dX2_heavy_12 ?_
  exact j_iret dX2_heavy_13 rfl ⟨_, rfl, h⟩
def w_X4_stepped (a1 : Int64) (a2 : Int64) (M : am_I) (N : am_N) (post : Int64 → am_I → am_N → Prop) : Prop :=
  ∀ zv1 : Int64, zv1 = ((a1 &&& 9187201950435737471) <<< ((1 : Int32).toInt64 &&& 63)) ||| (((a1 &&& (-72340172838076674)).toUInt64 >>> ((1 : Int32).toInt64.toUInt64 &&& Int64.toUInt64 63)).toInt64) → post ((((a1 ||| zv1) ||| (a1 <<< ((8 : Int32).toInt64 &&& 63))) ||| ((a1.toUInt64 >>> ((8 : Int32).toInt64.toUInt64 &&& Int64.toUInt64 63)).toInt64)) &&& a2) M N
set_option maxRecDepth 10000 in
theorem k_X4_stepped {d : Nat} {dm : List am_C}  {a1 : Int64} {a2 : Int64} {M : am_I} {N : am_N} {post : Int64 → am_I → am_N → Prop} (h : w_X4_stepped a1 a2 M N post) : jg (d + 1) mX4_stepped dm 0 [(0, .inr (.inl a1)), (2, .inr (.inl a2))] [] M N (am_pl post) := by
  refine j_lload_n 0 dX4_stepped_0 rfl ?_
  refine j_ldc2 (v := 9187201950435737471) dX4_stepped_1 cw_992 ?_
  refine j_land dX4_stepped_4 ?_
  refine j_iconst (v := 1) dX4_stepped_5 (by decide) ?_
  refine j_lshl dX4_stepped_6 ?_
  refine j_lload_n 0 dX4_stepped_7 rfl ?_
  refine j_ldc2 (v := (-72340172838076674)) dX4_stepped_8 cw_993 ?_
  refine j_land dX4_stepped_11 ?_
  refine j_iconst (v := 1) dX4_stepped_12 (by decide) ?_
  refine j_lushr dX4_stepped_13 ?_
  refine j_lor dX4_stepped_14 ?_
  refine j_topl (fun zv1 hzv1 => ?_)
  replace h := h zv1 hzv1
  refine j_lstore dX4_stepped_15 (by decide) rfl ?_
  refine j_lload_n 1 dX4_stepped_17 rfl ?_
  refine j_lload 0 dX4_stepped_18 rfl ?_
  refine j_lor dX4_stepped_20 ?_
  refine j_lload_n 1 dX4_stepped_21 rfl ?_
  refine j_bipush (v := 8) dX4_stepped_22 (by decide) ?_
  refine j_lshl dX4_stepped_24 ?_
  refine j_lor dX4_stepped_25 ?_
  refine j_lload_n 1 dX4_stepped_26 rfl ?_
  refine j_bipush (v := 8) dX4_stepped_27 (by decide) ?_
  refine j_lushr dX4_stepped_29 ?_
  refine j_lor dX4_stepped_30 ?_
  refine j_lload_n 2 dX4_stepped_31 rfl ?_
  refine j_land dX4_stepped_32 ?_
  exact j_lret dX4_stepped_33 rfl ⟨_, rfl, h⟩
def w_X2_shape (b : Nat) (a1 : Int32) (a2 : Int32) (a3 : Int32) (M : am_I) (N : am_N) (post : am_I → am_N → Prop) : Prop :=
  w_X11_isCell a1 M N (fun zr1 zM2 zN3 => ((zr1 = 0 → post zM2 zN3) ∧ (¬ zr1 = 0 → vp_in a1 64 ∧ vp_in a1 64 ∧ post (am_u (am_u zM2 (1, b, 2) a1.toNatClampNeg a2) (1, b, 3) a1.toNatClampNeg a3) zN3)))
set_option maxRecDepth 10000 in
theorem k_X2_shape {d : Nat} {dm : List am_C} {b : Nat} (h1b : am_d1 dm b) {a1 : Int32} {a2 : Int32} {a3 : Int32} {M : am_I} {N : am_N} {post : am_I → am_N → Prop} (h : w_X2_shape b a1 a2 a3 M N post) : jg (d + 2) mX2_shape dm 0 [(0, .inr (.inr (1, b, 1))), (1, .inl a1), (2, .inl a2), (3, .inl a3)] [] M N (am_pv post) := by
  refine j_iload_n 1 dX2_shape_0 rfl ?_
  refine j_invS (As := [.inl a1]) dX2_shape_1 msRX2_37 mbX11_isCell rfl rfl (Nat.le_of_ble_eq_true rfl) (Nat.le_of_ble_eq_true rfl) (by omega) (k_X11_isCell (d := d + 0)  h) ?_
  rintro _ zM2 zN3 ⟨zr1, rfl, h⟩
  refine j_if_eq (tgt := 21) dX2_shape_4 (by decide) (fun hc => ?_) (fun hc => ?_)
  · replace h := h.1 hc
    exact j_vret dX2_shape_21 rfl ⟨rfl, h⟩
  · replace h := h.2 hc
    refine j_aload_n 0 dX2_shape_7 rfl ?_
    refine j_getR (b := (1, b, 2)) dX2_shape_8 fsRX2_9 (h1b 1 (by decide)) rfl rfl ?_
    refine j_iload_n 1 dX2_shape_11 rfl ?_
    refine j_iload_n 2 dX2_shape_12 rfl ?_
    obtain ⟨hq, h⟩ := h
    refine j_iast dX2_shape_13 (h1b 2 (by decide)) rfl hq ?_
    refine j_aload_n 0 dX2_shape_14 rfl ?_
    refine j_getR (b := (1, b, 3)) dX2_shape_15 fsRX2_15 (h1b 1 (by decide)) rfl rfl ?_
    refine j_iload_n 1 dX2_shape_18 rfl ?_
    refine j_iload_n 3 dX2_shape_19 rfl ?_
    obtain ⟨hq, h⟩ := h
    refine j_iast dX2_shape_20 (h1b 3 (by decide)) rfl hq ?_
    exact j_vret dX2_shape_21 rfl ⟨rfl, h⟩
def w_X2_lowestBeside_p4_b (b : Nat) (post : Int32 → am_I → am_N → Prop) (zk4 : Int32 → Int32 → Int32 → am_I → am_N → Prop) (l1 : Int32) (l2 : Int32) (l3 : Int32) (M : am_I) (N : am_N) : Prop :=
  ((4 ≤ l3 → post l2 M N) ∧ (¬ 4 ≤ l3 → w_X11_beside l1 l3 M N (fun zr1 zM2 zN3 => ((zr1 < 0 → zk4 l1 l2 (l3 + 1) zM2 zN3) ∧ (¬ zr1 < 0 → vp_in zr1 64 ∧ vp_in l2 64 ∧ (((zM2 (1, b, 2) l2.toNatClampNeg) ≤ (zM2 (1, b, 2) zr1.toNatClampNeg) → zk4 l1 l2 (l3 + 1) zM2 zN3) ∧ (¬ (zM2 (1, b, 2) l2.toNatClampNeg) ≤ (zM2 (1, b, 2) zr1.toNatClampNeg) → zk4 l1 zr1 (l3 + 1) zM2 zN3)))))))
noncomputable def w_X2_lowestBeside_p4 (b : Nat) (post : Int32 → am_I → am_N → Prop) (n : Nat) : Int32 → Int32 → Int32 → am_I → am_N → Prop :=
  Nat.rec (motive := fun _ => Int32 → Int32 → Int32 → am_I → am_N → Prop) (fun _ _ _ _ _ => False) (fun _ zk => w_X2_lowestBeside_p4_b b post zk) n
theorem w_X2_lowestBeside_p4_s (b : Nat) (post : Int32 → am_I → am_N → Prop) (n : Nat) (l1 : Int32) (l2 : Int32) (l3 : Int32) (M : am_I) (N : am_N) : w_X2_lowestBeside_p4 b post (n + 1) l1 l2 l3 M N = w_X2_lowestBeside_p4_b b post (w_X2_lowestBeside_p4 b post n) l1 l2 l3 M N := rfl
set_option maxRecDepth 10000 in
theorem k_X2_lowestBeside_p4 {d : Nat} {dm : List am_C} {b : Nat} (h1b : am_d1 dm b) {post : Int32 → am_I → am_N → Prop} : ∀ (n : Nat) (l1 : Int32) (l2 : Int32) (l3 : Int32) (M : am_I) (N : am_N), w_X2_lowestBeside_p4 b post n l1 l2 l3 M N → jg (d + 2) mX2_lowestBeside dm 4 [(0, .inr (.inr (1, b, 1))), (1, .inl l1), (2, .inl l2), (3, .inl l3)] [] M N (am_pi post) := by
  intro n
  induction n with
  | zero => intro l1 l2 l3 M N h; exact h.elim
  | succ n zih =>
    intro l1 l2 l3 M N h
    replace h : w_X2_lowestBeside_p4_b b post (w_X2_lowestBeside_p4 b post n) l1 l2 l3 M N := h
    refine j_iload_n 3 dX2_lowestBeside_4 rfl ?_
    refine j_iconst (v := 4) dX2_lowestBeside_5 (by decide) ?_
    refine j_icmp_ge (tgt := 46) dX2_lowestBeside_6 (by decide) (fun hc => ?_) (fun hc => ?_)
    · replace h := h.1 hc
      refine j_iload_n 2 dX2_lowestBeside_46 rfl ?_
      exact j_iret dX2_lowestBeside_47 rfl ⟨_, rfl, h⟩
    · replace h := h.2 hc
      refine j_iload_n 1 dX2_lowestBeside_9 rfl ?_
      refine j_iload_n 3 dX2_lowestBeside_10 rfl ?_
      refine j_invS (As := [.inl l1, .inl l3]) dX2_lowestBeside_11 msRX2_47 mbX11_beside rfl rfl (Nat.le_of_ble_eq_true rfl) (Nat.le_of_ble_eq_true rfl) (by omega) (k_X11_beside (d := d + 0)  h) ?_
      rintro _ zM2 zN3 ⟨zr1, rfl, h⟩
      refine j_istore dX2_lowestBeside_14 (by decide) rfl ?_
      refine j_iload 0 dX2_lowestBeside_16 rfl ?_
      refine j_if_lt (tgt := 40) dX2_lowestBeside_18 (by decide) (fun hc => ?_) (fun hc => ?_)
      · replace h := h.1 hc
        refine j_iinc 4 dX2_lowestBeside_40 rfl rfl (by decide) rfl ?_
        refine j_goto (tgt := 4) dX2_lowestBeside_43 (by decide) ?_
        refine j_sub [2, 3, 4, 0] rfl ?_
        exact zih _ _ _ _ _ h
      · replace h := h.2 hc
        refine j_aload_n 1 dX2_lowestBeside_21 rfl ?_
        refine j_getR (b := (1, b, 2)) dX2_lowestBeside_22 fsRX2_9 (h1b 1 (by decide)) rfl rfl ?_
        refine j_iload 0 dX2_lowestBeside_25 rfl ?_
        obtain ⟨hq, h⟩ := h
        refine j_iald dX2_lowestBeside_27 (h1b 2 (by decide)) rfl hq ?_
        refine j_aload_n 1 dX2_lowestBeside_28 rfl ?_
        refine j_getR (b := (1, b, 2)) dX2_lowestBeside_29 fsRX2_9 (h1b 1 (by decide)) rfl rfl ?_
        refine j_iload_n 3 dX2_lowestBeside_32 rfl ?_
        obtain ⟨hq, h⟩ := h
        refine j_iald dX2_lowestBeside_33 (h1b 2 (by decide)) rfl hq ?_
        refine j_icmp_ge (tgt := 40) dX2_lowestBeside_34 (by decide) (fun hc => ?_) (fun hc => ?_)
        · replace h := h.1 hc
          refine j_iinc 4 dX2_lowestBeside_40 rfl rfl (by decide) rfl ?_
          refine j_goto (tgt := 4) dX2_lowestBeside_43 (by decide) ?_
          refine j_sub [2, 3, 4, 0] rfl ?_
          exact zih _ _ _ _ _ h
        · replace h := h.2 hc
          refine j_iload 0 dX2_lowestBeside_37 rfl ?_
          refine j_istore_n dX2_lowestBeside_39 (by decide) rfl ?_
          refine j_iinc 4 dX2_lowestBeside_40 rfl rfl (by decide) rfl ?_
          refine j_goto (tgt := 4) dX2_lowestBeside_43 (by decide) ?_
          refine j_sub [3, 4, 1, 0] rfl ?_
          exact zih _ _ _ _ _ h
def w_X2_lowestBeside (b : Nat) (a1 : Int32) (M : am_I) (N : am_N) (post : Int32 → am_I → am_N → Prop) : Prop :=
  ∃ n, w_X2_lowestBeside_p4 b post n a1 a1 0 M N
set_option maxRecDepth 10000 in
theorem k_X2_lowestBeside {d : Nat} {dm : List am_C} {b : Nat} (h1b : am_d1 dm b) {a1 : Int32} {M : am_I} {N : am_N} {post : Int32 → am_I → am_N → Prop} (h : w_X2_lowestBeside b a1 M N post) : jg (d + 2) mX2_lowestBeside dm 0 [(0, .inr (.inr (1, b, 1))), (1, .inl a1)] [] M N (am_pi post) := by
  refine j_iload_n 1 dX2_lowestBeside_0 rfl ?_
  refine j_istore_n dX2_lowestBeside_1 (by decide) rfl ?_
  refine j_iconst (v := 0) dX2_lowestBeside_2 (by decide) ?_
  refine j_istore_n dX2_lowestBeside_3 (by decide) rfl ?_
  refine j_sub [2, 3, 1, 0] rfl ?_
  obtain ⟨n, h⟩ := h
  exact k_X2_lowestBeside_p4 h1b n _ _ _ _ _ h
def w_X4_cellNumbered_p5_b (post : Int32 → am_I → am_N → Prop) (zk5 : Int64 → Int32 → Int32 → Int32 → am_I → am_N → Prop) (l0 : Int64) (l2 : Int32) (l3 : Int32) (l4 : Int32) (M : am_I) (N : am_N) : Prop :=
  ((64 ≤ l4 → post (-1) M N) ∧ (¬ 64 ≤ l4 → w_X11_bit l4 M N (fun zr1 zM2 zN3 => (((l0 &&& zr1) = 0 → zk5 l0 l2 l3 (l4 + 1) zM2 zN3) ∧ (¬ (l0 &&& zr1) = 0 → ((¬ l3 = l2 → zk5 l0 l2 (l3 + 1) (l4 + 1) zM2 zN3) ∧ (l3 = l2 → post l4 zM2 zN3)))))))
noncomputable def w_X4_cellNumbered_p5 (post : Int32 → am_I → am_N → Prop) (n : Nat) : Int64 → Int32 → Int32 → Int32 → am_I → am_N → Prop :=
  Nat.rec (motive := fun _ => Int64 → Int32 → Int32 → Int32 → am_I → am_N → Prop) (fun _ _ _ _ _ _ => False) (fun _ zk => w_X4_cellNumbered_p5_b post zk) n
theorem w_X4_cellNumbered_p5_s (post : Int32 → am_I → am_N → Prop) (n : Nat) (l0 : Int64) (l2 : Int32) (l3 : Int32) (l4 : Int32) (M : am_I) (N : am_N) : w_X4_cellNumbered_p5 post (n + 1) l0 l2 l3 l4 M N = w_X4_cellNumbered_p5_b post (w_X4_cellNumbered_p5 post n) l0 l2 l3 l4 M N := rfl
set_option maxRecDepth 10000 in
theorem k_X4_cellNumbered_p5 {d : Nat} {dm : List am_C}  {post : Int32 → am_I → am_N → Prop} : ∀ (n : Nat) (l0 : Int64) (l2 : Int32) (l3 : Int32) (l4 : Int32) (M : am_I) (N : am_N), w_X4_cellNumbered_p5 post n l0 l2 l3 l4 M N → jg (d + 2) mX4_cellNumbered dm 5 [(0, .inr (.inl l0)), (2, .inl l2), (3, .inl l3), (4, .inl l4)] [] M N (am_pi post) := by
  intro n
  induction n with
  | zero => intro l0 l2 l3 l4 M N h; exact h.elim
  | succ n zih =>
    intro l0 l2 l3 l4 M N h
    replace h : w_X4_cellNumbered_p5_b post (w_X4_cellNumbered_p5 post n) l0 l2 l3 l4 M N := h
    refine j_iload 3 dX4_cellNumbered_5 rfl ?_
    refine j_bipush (v := 64) dX4_cellNumbered_7 (by decide) ?_
    refine j_icmp_ge (tgt := 41) dX4_cellNumbered_9 (by decide) (fun hc => ?_) (fun hc => ?_)
    · replace h := h.1 hc
      refine j_iconst (v := (-1)) dX4_cellNumbered_41 (by decide) ?_
      exact j_iret dX4_cellNumbered_42 rfl ⟨_, rfl, h⟩
    · replace h := h.2 hc
      refine j_lload_n 0 dX4_cellNumbered_12 rfl ?_
      refine j_iload 3 dX4_cellNumbered_13 rfl ?_
      refine j_invS (As := [.inl l4]) dX4_cellNumbered_15 msRX4_9 mbX11_bit rfl rfl (Nat.le_of_ble_eq_true rfl) (Nat.le_of_ble_eq_true rfl) (by omega) (k_X11_bit (d := d + 0)  h) ?_
      rintro _ zM2 zN3 ⟨zr1, rfl, h⟩
      refine j_land dX4_cellNumbered_18 ?_
      refine j_lconst (v := 0) dX4_cellNumbered_19 (by decide) ?_
      refine j_lcmp_eq (tgt := 35) dX4_cellNumbered_20 dX4_cellNumbered_21 (by decide) (fun hc => ?_) (fun hc => ?_)
      · replace h := h.1 hc
        refine j_iinc 3 dX4_cellNumbered_35 rfl rfl (by decide) rfl ?_
        refine j_goto (tgt := 5) dX4_cellNumbered_38 (by decide) ?_
        refine j_sub [1, 2, 3, 0] rfl ?_
        exact zih _ _ _ _ _ _ h
      · replace h := h.2 hc
        refine j_iload_n 2 dX4_cellNumbered_24 rfl ?_
        refine j_iload_n 1 dX4_cellNumbered_25 rfl ?_
        refine j_icmp_ne (tgt := 32) dX4_cellNumbered_26 (by decide) (fun hc => ?_) (fun hc => ?_)
        · replace h := h.1 hc
          refine j_iinc 2 dX4_cellNumbered_32 rfl rfl (by decide) rfl ?_
          refine j_iinc 3 dX4_cellNumbered_35 rfl rfl (by decide) rfl ?_
          refine j_goto (tgt := 5) dX4_cellNumbered_38 (by decide) ?_
          refine j_sub [2, 3, 1, 0] rfl ?_
          exact zih _ _ _ _ _ _ h
        · replace h := h.2 hc
          refine j_iload 3 dX4_cellNumbered_29 rfl ?_
          exact j_iret dX4_cellNumbered_31 rfl ⟨_, rfl, h⟩
def w_X4_cellNumbered (a1 : Int64) (a2 : Int32) (M : am_I) (N : am_N) (post : Int32 → am_I → am_N → Prop) : Prop :=
  ∃ n, w_X4_cellNumbered_p5 post n a1 a2 0 0 M N
set_option maxRecDepth 10000 in
theorem k_X4_cellNumbered {d : Nat} {dm : List am_C}  {a1 : Int64} {a2 : Int32} {M : am_I} {N : am_N} {post : Int32 → am_I → am_N → Prop} (h : w_X4_cellNumbered a1 a2 M N post) : jg (d + 2) mX4_cellNumbered dm 0 [(0, .inr (.inl a1)), (2, .inl a2)] [] M N (am_pi post) := by
  refine j_iconst (v := 0) dX4_cellNumbered_0 (by decide) ?_
  refine j_istore_n dX4_cellNumbered_1 (by decide) rfl ?_
  refine j_iconst (v := 0) dX4_cellNumbered_2 (by decide) ?_
  refine j_istore dX4_cellNumbered_3 (by decide) rfl ?_
  refine j_sub [2, 3, 1, 0] rfl ?_
  obtain ⟨n, h⟩ := h
  exact k_X4_cellNumbered_p5  n _ _ _ _ _ _ h
def w_X4_reached_p6_b (post : Int64 → am_I → am_N → Prop) (zk6 : Int64 → Int32 → Int64 → Int32 → am_I → am_N → Prop) (l2 : Int64) (l4 : Int32) (l5 : Int64) (l7 : Int32) (M : am_I) (N : am_N) : Prop :=
  ((l4 ≤ l7 → post l5 M N) ∧ (¬ l4 ≤ l7 → w_X4_stepped l5 l2 M N (fun zr1 zM2 zN3 => ((¬ zr1 = l5 → zk6 l2 l4 zr1 (l7 + 1) zM2 zN3) ∧ (zr1 = l5 → post l5 zM2 zN3)))))
noncomputable def w_X4_reached_p6 (post : Int64 → am_I → am_N → Prop) (n : Nat) : Int64 → Int32 → Int64 → Int32 → am_I → am_N → Prop :=
  Nat.rec (motive := fun _ => Int64 → Int32 → Int64 → Int32 → am_I → am_N → Prop) (fun _ _ _ _ _ _ => False) (fun _ zk => w_X4_reached_p6_b post zk) n
theorem w_X4_reached_p6_s (post : Int64 → am_I → am_N → Prop) (n : Nat) (l2 : Int64) (l4 : Int32) (l5 : Int64) (l7 : Int32) (M : am_I) (N : am_N) : w_X4_reached_p6 post (n + 1) l2 l4 l5 l7 M N = w_X4_reached_p6_b post (w_X4_reached_p6 post n) l2 l4 l5 l7 M N := rfl
set_option maxRecDepth 10000 in
theorem k_X4_reached_p6 {d : Nat} {dm : List am_C}  {post : Int64 → am_I → am_N → Prop} : ∀ (n : Nat) (l2 : Int64) (l4 : Int32) (l5 : Int64) (l7 : Int32) (M : am_I) (N : am_N), w_X4_reached_p6 post n l2 l4 l5 l7 M N → jg (d + 2) mX4_reached dm 6 [(2, .inr (.inl l2)), (4, .inl l4), (5, .inr (.inl l5)), (7, .inl l7)] [] M N (am_pl post) := by
  intro n
  induction n with
  | zero => intro l2 l4 l5 l7 M N h; exact h.elim
  | succ n zih =>
    intro l2 l4 l5 l7 M N h
    replace h : w_X4_reached_p6_b post (w_X4_reached_p6 post n) l2 l4 l5 l7 M N := h
    refine j_iload 3 dX4_reached_6 rfl ?_
    refine j_iload 1 dX4_reached_8 rfl ?_
    refine j_icmp_ge (tgt := 42) dX4_reached_10 (by decide) (fun hc => ?_) (fun hc => ?_)
    · replace h := h.1 hc
      refine j_lload 2 dX4_reached_42 rfl ?_
      exact j_lret dX4_reached_44 rfl ⟨_, rfl, h⟩
    · replace h := h.2 hc
      refine j_lload 2 dX4_reached_13 rfl ?_
      refine j_lload_n 0 dX4_reached_15 rfl ?_
      refine j_invS (As := [.inr (.inl l5), .inr (.inl l2)]) dX4_reached_16 msRX4_21 mbX4_stepped rfl rfl (Nat.le_of_ble_eq_true rfl) (Nat.le_of_ble_eq_true rfl) (by omega) (k_X4_stepped (d := d + 0)  h) ?_
      rintro _ zM2 zN3 ⟨zr1, rfl, h⟩
      refine j_lstore dX4_reached_19 (by decide) rfl ?_
      refine j_lload 0 dX4_reached_21 rfl ?_
      refine j_lload 3 dX4_reached_23 rfl ?_
      refine j_lcmp_ne (tgt := 32) dX4_reached_25 dX4_reached_26 (by decide) (fun hc => ?_) (fun hc => ?_)
      · replace h := h.1 hc
        refine j_lload 0 dX4_reached_32 rfl ?_
        refine j_lstore dX4_reached_34 (by decide) rfl ?_
        refine j_iinc 4 dX4_reached_36 rfl rfl (by decide) rfl ?_
        refine j_goto (tgt := 6) dX4_reached_39 (by decide) ?_
        refine j_sub [3, 4, 1, 0] rfl ?_
        exact zih _ _ _ _ _ _ h
      · replace h := h.2 hc
        refine j_lload 3 dX4_reached_29 rfl ?_
        exact j_lret dX4_reached_31 rfl ⟨_, rfl, h⟩
def w_X4_reached (a1 : Int64) (a2 : Int64) (a3 : Int32) (M : am_I) (N : am_N) (post : Int64 → am_I → am_N → Prop) : Prop :=
  ∃ n, w_X4_reached_p6 post n a2 a3 a1 0 M N
set_option maxRecDepth 10000 in
theorem k_X4_reached {d : Nat} {dm : List am_C}  {a1 : Int64} {a2 : Int64} {a3 : Int32} {M : am_I} {N : am_N} {post : Int64 → am_I → am_N → Prop} (h : w_X4_reached a1 a2 a3 M N post) : jg (d + 2) mX4_reached dm 0 [(0, .inr (.inl a1)), (2, .inr (.inl a2)), (4, .inl a3)] [] M N (am_pl post) := by
  refine j_lload_n 0 dX4_reached_0 rfl ?_
  refine j_lstore dX4_reached_1 (by decide) rfl ?_
  refine j_iconst (v := 0) dX4_reached_3 (by decide) ?_
  refine j_istore dX4_reached_4 (by decide) rfl ?_
  refine j_sub [3, 4, 1, 0] rfl ?_
  obtain ⟨n, h⟩ := h
  exact k_X4_reached_p6  n _ _ _ _ _ _ h
def w_X2_flow_p92_b (b : Nat) (post : am_I → am_N → Prop) (zk92 : Int32 → am_I → am_N → Prop) (l1 : Int32) (M : am_I) (N : am_N) : Prop :=
  ((64 ≤ l1 → post M N) ∧ (¬ 64 ≤ l1 → vp_in l1 64 ∧ vp_in l1 64 ∧ vp_in l1 64 ∧ zk92 (l1 + 1) (am_u M (1, b, 3) l1.toNatClampNeg ((M (1, b, 3) l1.toNatClampNeg) + (M (1, b, 5) l1.toNatClampNeg))) N))
noncomputable def w_X2_flow_p92 (b : Nat) (post : am_I → am_N → Prop) (n : Nat) : Int32 → am_I → am_N → Prop :=
  Nat.rec (motive := fun _ => Int32 → am_I → am_N → Prop) (fun _ _ _ => False) (fun _ zk => w_X2_flow_p92_b b post zk) n
theorem w_X2_flow_p92_s (b : Nat) (post : am_I → am_N → Prop) (n : Nat) (l1 : Int32) (M : am_I) (N : am_N) : w_X2_flow_p92 b post (n + 1) l1 M N = w_X2_flow_p92_b b post (w_X2_flow_p92 b post n) l1 M N := rfl
set_option maxRecDepth 10000 in
theorem k_X2_flow_p92 {d : Nat} {dm : List am_C} {b : Nat} (h1b : am_d1 dm b) {post : am_I → am_N → Prop} : ∀ (n : Nat) (l1 : Int32) (M : am_I) (N : am_N), w_X2_flow_p92 b post n l1 M N → jg (d + 3) mX2_flow dm 92 [(0, .inr (.inr (1, b, 1))), (1, .inl l1)] [] M N (am_pv post) := by
  intro n
  induction n with
  | zero => intro l1 M N h; exact h.elim
  | succ n zih =>
    intro l1 M N h
    replace h : w_X2_flow_p92_b b post (w_X2_flow_p92 b post n) l1 M N := h
    refine j_iload_n 1 dX2_flow_92 rfl ?_
    refine j_bipush (v := 64) dX2_flow_93 (by decide) ?_
    refine j_icmp_ge (tgt := 119) dX2_flow_95 (by decide) (fun hc => ?_) (fun hc => ?_)
    · replace h := h.1 hc
      exact j_vret dX2_flow_119 rfl ⟨rfl, h⟩
    · replace h := h.2 hc
      refine j_aload_n 0 dX2_flow_98 rfl ?_
      refine j_getR (b := (1, b, 3)) dX2_flow_99 fsRX2_15 (h1b 1 (by decide)) rfl rfl ?_
      refine j_iload_n 1 dX2_flow_102 rfl ?_
      refine j_dup2 dX2_flow_103 rfl rfl ?_
      obtain ⟨hq, h⟩ := h
      refine j_iald dX2_flow_104 (h1b 3 (by decide)) rfl hq ?_
      refine j_aload_n 0 dX2_flow_105 rfl ?_
      refine j_getR (b := (1, b, 5)) dX2_flow_106 fsRX2_21 (h1b 1 (by decide)) rfl rfl ?_
      refine j_iload_n 1 dX2_flow_109 rfl ?_
      obtain ⟨hq, h⟩ := h
      refine j_iald dX2_flow_110 (h1b 5 (by decide)) rfl hq ?_
      refine j_iadd dX2_flow_111 ?_
      obtain ⟨hq, h⟩ := h
      refine j_iast dX2_flow_112 (h1b 3 (by decide)) rfl hq ?_
      refine j_iinc 1 dX2_flow_113 rfl rfl (by decide) rfl ?_
      refine j_goto (tgt := 92) dX2_flow_116 (by decide) ?_
      refine j_sub [1, 0] rfl ?_
      exact zih _ _ _ h
def w_X2_flow_p36 (b : Nat) (post : am_I → am_N → Prop) (zk10 : Int32 → am_I → am_N → Prop) (l1 : Int32) (s0 : Int32) (M : am_I) (N : am_N) : Prop :=
  vp_in s0 64 ∧ vp_in l1 64 ∧ (((M (1, b, 2) l1.toNatClampNeg) ≤ (M (1, b, 2) s0.toNatClampNeg) → zk10 (l1 + 1) M N) ∧ (¬ (M (1, b, 2) l1.toNatClampNeg) ≤ (M (1, b, 2) s0.toNatClampNeg) → vp_in l1 64 ∧ ∀ zv1 : Int32, zv1 = ((M (1, b, 3) l1.toNatClampNeg) - 100) / 2 → vp_in l1 64 ∧ vp_in l1 64 ∧ vp_in s0 64 ∧ vp_in s0 64 ∧ zk10 (l1 + 1) (am_u (am_u M (1, b, 5) l1.toNatClampNeg ((M (1, b, 5) l1.toNatClampNeg) - zv1)) (1, b, 5) s0.toNatClampNeg (((am_u M (1, b, 5) l1.toNatClampNeg ((M (1, b, 5) l1.toNatClampNeg) - zv1)) (1, b, 5) s0.toNatClampNeg) + zv1)) N))
set_option maxRecDepth 10000 in
theorem k_X2_flow_p36 {d : Nat} {dm : List am_C} {b : Nat} (h1b : am_d1 dm b) {post : am_I → am_N → Prop} {zk10 : Int32 → am_I → am_N → Prop} (zhk10 : ∀ (l1 : Int32) (M : am_I) (N : am_N), zk10 l1 M N → jg (d + 3) mX2_flow dm 10 [(0, .inr (.inr (1, b, 1))), (1, .inl l1)] [] M N (am_pv post)) (l1 : Int32) (s0 : Int32) (M : am_I) (N : am_N) (h : w_X2_flow_p36 b post zk10 l1 s0 M N) : jg (d + 3) mX2_flow dm 36 [(0, .inr (.inr (1, b, 1))), (1, .inl l1)] [.inl s0] M N (am_pv post) := by
  refine j_istore_n dX2_flow_36 (by decide) rfl ?_
  refine j_aload_n 1 dX2_flow_37 rfl ?_
  refine j_getR (b := (1, b, 2)) dX2_flow_38 fsRX2_9 (h1b 1 (by decide)) rfl rfl ?_
  refine j_iload_n 0 dX2_flow_41 rfl ?_
  obtain ⟨hq, h⟩ := h
  refine j_iald dX2_flow_42 (h1b 2 (by decide)) rfl hq ?_
  refine j_aload_n 1 dX2_flow_43 rfl ?_
  refine j_getR (b := (1, b, 2)) dX2_flow_44 fsRX2_9 (h1b 1 (by decide)) rfl rfl ?_
  refine j_iload_n 2 dX2_flow_47 rfl ?_
  obtain ⟨hq, h⟩ := h
  refine j_iald dX2_flow_48 (h1b 2 (by decide)) rfl hq ?_
  refine j_icmp_ge (tgt := 84) dX2_flow_49 (by decide) (fun hc => ?_) (fun hc => ?_)
  · replace h := h.1 hc
    refine j_iinc 2 dX2_flow_84 rfl rfl (by decide) rfl ?_
    refine j_goto (tgt := 10) dX2_flow_87 (by decide) ?_
    refine j_sub [2, 0] rfl ?_
    exact zhk10 _ _ _ h
  · replace h := h.2 hc
    refine j_aload_n 1 dX2_flow_52 rfl ?_
    refine j_getR (b := (1, b, 3)) dX2_flow_53 fsRX2_15 (h1b 1 (by decide)) rfl rfl ?_
    refine j_iload_n 2 dX2_flow_56 rfl ?_
    obtain ⟨hq, h⟩ := h
    refine j_iald dX2_flow_57 (h1b 3 (by decide)) rfl hq ?_
    refine j_bipush (v := 100) dX2_flow_58 (by decide) ?_
    refine j_isub dX2_flow_60 ?_
    refine j_iconst (v := 2) dX2_flow_61 (by decide) ?_
    refine j_idiv dX2_flow_62 (by decide) ?_
    refine j_topi (fun zv1 hzv1 => ?_)
    replace h := h zv1 hzv1
    refine j_istore_n dX2_flow_63 (by decide) rfl ?_
    refine j_aload_n 2 dX2_flow_64 rfl ?_
    refine j_getR (b := (1, b, 5)) dX2_flow_65 fsRX2_21 (h1b 1 (by decide)) rfl rfl ?_
    refine j_iload_n 3 dX2_flow_68 rfl ?_
    refine j_dup2 dX2_flow_69 rfl rfl ?_
    obtain ⟨hq, h⟩ := h
    refine j_iald dX2_flow_70 (h1b 5 (by decide)) rfl hq ?_
    refine j_iload_n 0 dX2_flow_71 rfl ?_
    refine j_isub dX2_flow_72 ?_
    obtain ⟨hq, h⟩ := h
    refine j_iast dX2_flow_73 (h1b 5 (by decide)) rfl hq ?_
    refine j_aload_n 2 dX2_flow_74 rfl ?_
    refine j_getR (b := (1, b, 5)) dX2_flow_75 fsRX2_21 (h1b 1 (by decide)) rfl rfl ?_
    refine j_iload_n 1 dX2_flow_78 rfl ?_
    refine j_dup2 dX2_flow_79 rfl rfl ?_
    obtain ⟨hq, h⟩ := h
    refine j_iald dX2_flow_80 (h1b 5 (by decide)) rfl hq ?_
    refine j_iload_n 0 dX2_flow_81 rfl ?_
    refine j_iadd dX2_flow_82 ?_
    obtain ⟨hq, h⟩ := h
    refine j_iast dX2_flow_83 (h1b 5 (by decide)) rfl hq ?_
    refine j_iinc 3 dX2_flow_84 rfl rfl (by decide) rfl ?_
    refine j_goto (tgt := 10) dX2_flow_87 (by decide) ?_
    refine j_sub [3, 0] rfl ?_
    exact zhk10 _ _ _ h
def w_X2_flow_p10_b (b : Nat) (post : am_I → am_N → Prop) (zk10 : Int32 → am_I → am_N → Prop) (l1 : Int32) (M : am_I) (N : am_N) : Prop :=
  ((64 ≤ l1 → ∃ n, w_X2_flow_p92 b post n 0 M N) ∧ (¬ 64 ≤ l1 → vp_in l1 64 ∧ (((M (1, b, 3) l1.toNatClampNeg) ≤ 100 → w_X2_flow_p36 b post zk10 l1 l1 M N) ∧ (¬ (M (1, b, 3) l1.toNatClampNeg) ≤ 100 → w_X2_lowestBeside b l1 M N (fun zr1 zM2 zN3 => w_X2_flow_p36 b post zk10 l1 zr1 zM2 zN3)))))
noncomputable def w_X2_flow_p10 (b : Nat) (post : am_I → am_N → Prop) (n : Nat) : Int32 → am_I → am_N → Prop :=
  Nat.rec (motive := fun _ => Int32 → am_I → am_N → Prop) (fun _ _ _ => False) (fun _ zk => w_X2_flow_p10_b b post zk) n
theorem w_X2_flow_p10_s (b : Nat) (post : am_I → am_N → Prop) (n : Nat) (l1 : Int32) (M : am_I) (N : am_N) : w_X2_flow_p10 b post (n + 1) l1 M N = w_X2_flow_p10_b b post (w_X2_flow_p10 b post n) l1 M N := rfl
set_option maxRecDepth 10000 in
theorem k_X2_flow_p10 {d : Nat} {dm : List am_C} {b : Nat} (h1b : am_d1 dm b) {post : am_I → am_N → Prop} : ∀ (n : Nat) (l1 : Int32) (M : am_I) (N : am_N), w_X2_flow_p10 b post n l1 M N → jg (d + 3) mX2_flow dm 10 [(0, .inr (.inr (1, b, 1))), (1, .inl l1)] [] M N (am_pv post) := by
  intro n
  induction n with
  | zero => intro l1 M N h; exact h.elim
  | succ n zih =>
    intro l1 M N h
    replace h : w_X2_flow_p10_b b post (w_X2_flow_p10 b post n) l1 M N := h
    refine j_iload_n 1 dX2_flow_10 rfl ?_
    refine j_bipush (v := 64) dX2_flow_11 (by decide) ?_
    refine j_icmp_ge (tgt := 90) dX2_flow_13 (by decide) (fun hc => ?_) (fun hc => ?_)
    · replace h := h.1 hc
      refine j_iconst (v := 0) dX2_flow_90 (by decide) ?_
      refine j_istore_n dX2_flow_91 (by decide) rfl ?_
      refine j_sub [1, 0] rfl ?_
      obtain ⟨n, h⟩ := h
      exact k_X2_flow_p92 h1b n _ _ _ h
    · replace h := h.2 hc
      refine j_aload_n 0 dX2_flow_16 rfl ?_
      refine j_getR (b := (1, b, 3)) dX2_flow_17 fsRX2_15 (h1b 1 (by decide)) rfl rfl ?_
      refine j_iload_n 1 dX2_flow_20 rfl ?_
      obtain ⟨hq, h⟩ := h
      refine j_iald dX2_flow_21 (h1b 3 (by decide)) rfl hq ?_
      refine j_bipush (v := 100) dX2_flow_22 (by decide) ?_
      refine j_icmp_le (tgt := 35) dX2_flow_24 (by decide) (fun hc => ?_) (fun hc => ?_)
      · replace h := h.1 hc
        refine j_iload_n 1 dX2_flow_35 rfl ?_
        refine j_sub [0, 1] rfl ?_
        exact k_X2_flow_p36 h1b zih _ _ _ _ h
      · replace h := h.2 hc
        refine j_aload_n 0 dX2_flow_27 rfl ?_
        refine j_iload_n 1 dX2_flow_28 rfl ?_
        refine j_invV (As := [.inl l1]) dX2_flow_29 msRX2_43 mbX2_lowestBeside rfl rfl (Nat.le_of_ble_eq_true rfl) (Nat.le_of_ble_eq_true rfl) (by omega) (h1b 1 (by decide)) rfl rfl (k_X2_lowestBeside (d := d + 0) h1b h) ?_
        rintro _ zM2 zN3 ⟨zr1, rfl, h⟩
        refine j_goto (tgt := 36) dX2_flow_32 (by decide) ?_
        refine j_sub [0, 1] rfl ?_
        exact k_X2_flow_p36 h1b zih _ _ _ _ h
def w_X2_flow (b : Nat) (M : am_I) (N : am_N) (post : am_I → am_N → Prop) : Prop :=
  ∃ n, w_X2_flow_p10 b post n 0 (am_fill M (1, b, 5) 64 0) N
set_option maxRecDepth 10000 in
theorem k_X2_flow {d : Nat} {dm : List am_C} {b : Nat} (h1b : am_d1 dm b) {M : am_I} {N : am_N} {post : am_I → am_N → Prop} (h : w_X2_flow b M N post) : jg (d + 3) mX2_flow dm 0 [(0, .inr (.inr (1, b, 1)))] [] M N (am_pv post) := by
  refine j_aload_n 0 dX2_flow_0 rfl ?_
  refine j_getR (b := (1, b, 5)) dX2_flow_1 fsRX2_21 (h1b 1 (by decide)) rfl rfl ?_
  refine j_iconst (v := 0) dX2_flow_4 (by decide) ?_
  refine j_invS (As := [.inr (.inr (1, b, 5)), .inl 0]) dX2_flow_5 msRX2_24 mbJ7_fill_53178 rfl rfl (Nat.le_of_ble_eq_true rfl) (Nat.le_of_ble_eq_true rfl) (by omega) (k_J7_fill_53178 (d := d) (h1b 5 (by decide)) rfl (by decide)) ?_
  rintro _ _ _ ⟨rfl, rfl, rfl⟩
  refine j_iconst (v := 0) dX2_flow_8 (by decide) ?_
  refine j_istore_n dX2_flow_9 (by decide) rfl ?_
  refine j_sub [1, 0] rfl ?_
  obtain ⟨n, h⟩ := h
  exact k_X2_flow_p10 h1b n _ _ _ h
def w_X4_spotOf_p14_b (post : Int32 → am_I → am_N → Prop) (zk14 : Int64 → Int64 → Int32 → Int32 → Int32 → Int32 → am_I → am_N → Prop) (l0 : Int64) (l2 : Int64) (l4 : Int32) (l5 : Int32) (l6 : Int32) (l7 : Int32) (M : am_I) (N : am_N) : Prop :=
  ((64 ≤ l7 → post (-1) M N) ∧ (¬ 64 ≤ l7 → w_X11_bit l7 M N (fun zr1 zM2 zN3 => (((l0 &&& zr1) = 0 → zk14 l0 l2 l4 l5 l6 (l7 + 1) zM2 zN3) ∧ (¬ (l0 &&& zr1) = 0 → w_X11_bit l7 zM2 zN3 (fun zr4 zM5 zN6 => w_X4_reached zr4 l0 l4 zM5 zN6 (fun zr7 zM8 zN9 => (((l2 &&& (zr7 ^^^ (-1))) = 0 → ((¬ l6 = l5 → zk14 l0 l2 l4 l5 (l6 + 1) (l7 + 1) zM8 zN9) ∧ (l6 = l5 → post l7 zM8 zN9))) ∧ (¬ (l2 &&& (zr7 ^^^ (-1))) = 0 → zk14 l0 l2 l4 l5 l6 (l7 + 1) zM8 zN9)))))))))
noncomputable def w_X4_spotOf_p14 (post : Int32 → am_I → am_N → Prop) (n : Nat) : Int64 → Int64 → Int32 → Int32 → Int32 → Int32 → am_I → am_N → Prop :=
  Nat.rec (motive := fun _ => Int64 → Int64 → Int32 → Int32 → Int32 → Int32 → am_I → am_N → Prop) (fun _ _ _ _ _ _ _ _ => False) (fun _ zk => w_X4_spotOf_p14_b post zk) n
theorem w_X4_spotOf_p14_s (post : Int32 → am_I → am_N → Prop) (n : Nat) (l0 : Int64) (l2 : Int64) (l4 : Int32) (l5 : Int32) (l6 : Int32) (l7 : Int32) (M : am_I) (N : am_N) : w_X4_spotOf_p14 post (n + 1) l0 l2 l4 l5 l6 l7 M N = w_X4_spotOf_p14_b post (w_X4_spotOf_p14 post n) l0 l2 l4 l5 l6 l7 M N := rfl
set_option maxRecDepth 10000 in
theorem k_X4_spotOf_p14 {d : Nat} {dm : List am_C}  {post : Int32 → am_I → am_N → Prop} : ∀ (n : Nat) (l0 : Int64) (l2 : Int64) (l4 : Int32) (l5 : Int32) (l6 : Int32) (l7 : Int32) (M : am_I) (N : am_N), w_X4_spotOf_p14 post n l0 l2 l4 l5 l6 l7 M N → jg (d + 3) mX4_spotOf dm 14 [(0, .inr (.inl l0)), (2, .inr (.inl l2)), (4, .inl l4), (5, .inl l5), (6, .inl l6), (7, .inl l7)] [] M N (am_pi post) := by
  intro n
  induction n with
  | zero => intro l0 l2 l4 l5 l6 l7 M N h; exact h.elim
  | succ n zih =>
    intro l0 l2 l4 l5 l6 l7 M N h
    replace h : w_X4_spotOf_p14_b post (w_X4_spotOf_p14 post n) l0 l2 l4 l5 l6 l7 M N := h
    refine j_iload 5 dX4_spotOf_14 rfl ?_
    refine j_bipush (v := 64) dX4_spotOf_16 (by decide) ?_
    refine j_icmp_ge (tgt := 77) dX4_spotOf_18 (by decide) (fun hc => ?_) (fun hc => ?_)
    · replace h := h.1 hc
      refine j_iconst (v := (-1)) dX4_spotOf_77 (by decide) ?_
      exact j_iret dX4_spotOf_78 rfl ⟨_, rfl, h⟩
    · replace h := h.2 hc
      refine j_lload_n 0 dX4_spotOf_21 rfl ?_
      refine j_iload 5 dX4_spotOf_22 rfl ?_
      refine j_invS (As := [.inl l7]) dX4_spotOf_24 msRX4_9 mbX11_bit rfl rfl (Nat.le_of_ble_eq_true rfl) (Nat.le_of_ble_eq_true rfl) (by omega) (k_X11_bit (d := d + 1)  h) ?_
      rintro _ zM2 zN3 ⟨zr1, rfl, h⟩
      refine j_land dX4_spotOf_27 ?_
      refine j_lconst (v := 0) dX4_spotOf_28 (by decide) ?_
      refine j_lcmp_eq (tgt := 71) dX4_spotOf_29 dX4_spotOf_30 (by decide) (fun hc => ?_) (fun hc => ?_)
      · replace h := h.1 hc
        refine j_iinc 5 dX4_spotOf_71 rfl rfl (by decide) rfl ?_
        refine j_goto (tgt := 14) dX4_spotOf_74 (by decide) ?_
        refine j_sub [1, 2, 3, 4, 5, 0] rfl ?_
        exact zih _ _ _ _ _ _ _ _ h
      · replace h := h.2 hc
        refine j_lload_n 1 dX4_spotOf_33 rfl ?_
        refine j_iload 5 dX4_spotOf_34 rfl ?_
        refine j_invS (As := [.inl l7]) dX4_spotOf_36 msRX4_9 mbX11_bit rfl rfl (Nat.le_of_ble_eq_true rfl) (Nat.le_of_ble_eq_true rfl) (by omega) (k_X11_bit (d := d + 1)  h) ?_
        rintro _ zM5 zN6 ⟨zr4, rfl, h⟩
        refine j_lload_n 0 dX4_spotOf_39 rfl ?_
        refine j_iload 2 dX4_spotOf_40 rfl ?_
        refine j_invS (As := [.inr (.inl zr4), .inr (.inl l0), .inl l4]) dX4_spotOf_42 msRX4_13 mbX4_reached rfl rfl (Nat.le_of_ble_eq_true rfl) (Nat.le_of_ble_eq_true rfl) (by omega) (k_X4_reached (d := d + 0)  h) ?_
        rintro _ zM8 zN9 ⟨zr7, rfl, h⟩
        refine j_ldc2 (v := (-1)) dX4_spotOf_45 cw_994 ?_
        refine j_lxor dX4_spotOf_48 ?_
        refine j_land dX4_spotOf_49 ?_
        refine j_lconst (v := 0) dX4_spotOf_50 (by decide) ?_
        refine j_lcmp_eq (tgt := 58) dX4_spotOf_51 dX4_spotOf_52 (by decide) (fun hc => ?_) (fun hc => ?_)
        · replace h := h.1 hc
          refine j_iload 4 dX4_spotOf_58 rfl ?_
          refine j_iload 3 dX4_spotOf_60 rfl ?_
          refine j_icmp_ne (tgt := 68) dX4_spotOf_62 (by decide) (fun hc => ?_) (fun hc => ?_)
          · replace h := h.1 hc
            refine j_iinc 4 dX4_spotOf_68 rfl rfl (by decide) rfl ?_
            refine j_iinc 5 dX4_spotOf_71 rfl rfl (by decide) rfl ?_
            refine j_goto (tgt := 14) dX4_spotOf_74 (by decide) ?_
            refine j_sub [2, 3, 4, 5, 1, 0] rfl ?_
            exact zih _ _ _ _ _ _ _ _ h
          · replace h := h.2 hc
            refine j_iload 5 dX4_spotOf_65 rfl ?_
            exact j_iret dX4_spotOf_67 rfl ⟨_, rfl, h⟩
        · replace h := h.2 hc
          refine j_goto (tgt := 71) dX4_spotOf_55 (by decide) ?_
          refine j_iinc 5 dX4_spotOf_71 rfl rfl (by decide) rfl ?_
          refine j_goto (tgt := 14) dX4_spotOf_74 (by decide) ?_
          refine j_sub [1, 2, 3, 4, 5, 0] rfl ?_
          exact zih _ _ _ _ _ _ _ _ h
def w_X4_spotOf (a1 : Int64) (a2 : Int64) (a3 : Int32) (a4 : Int32) (M : am_I) (N : am_N) (post : Int32 → am_I → am_N → Prop) : Prop :=
  ((¬ a2 = 0 → ∃ n, w_X4_spotOf_p14 post n a1 a2 a3 a4 0 0 M N) ∧ (a2 = 0 → post (-1) M N))
set_option maxRecDepth 10000 in
theorem k_X4_spotOf {d : Nat} {dm : List am_C}  {a1 : Int64} {a2 : Int64} {a3 : Int32} {a4 : Int32} {M : am_I} {N : am_N} {post : Int32 → am_I → am_N → Prop} (h : w_X4_spotOf a1 a2 a3 a4 M N post) : jg (d + 3) mX4_spotOf dm 0 [(0, .inr (.inl a1)), (2, .inr (.inl a2)), (4, .inl a3), (5, .inl a4)] [] M N (am_pi post) := by
  refine j_lload_n 1 dX4_spotOf_0 rfl ?_
  refine j_lconst (v := 0) dX4_spotOf_1 (by decide) ?_
  refine j_lcmp_ne (tgt := 8) dX4_spotOf_2 dX4_spotOf_3 (by decide) (fun hc => ?_) (fun hc => ?_)
  · replace h := h.1 hc
    refine j_iconst (v := 0) dX4_spotOf_8 (by decide) ?_
    refine j_istore dX4_spotOf_9 (by decide) rfl ?_
    refine j_iconst (v := 0) dX4_spotOf_11 (by decide) ?_
    refine j_istore dX4_spotOf_12 (by decide) rfl ?_
    refine j_sub [2, 3, 4, 5, 1, 0] rfl ?_
    obtain ⟨n, h⟩ := h
    exact k_X4_spotOf_p14  n _ _ _ _ _ _ _ _ h
  · replace h := h.2 hc
    refine j_iconst (v := (-1)) dX4_spotOf_6 (by decide) ?_
    exact j_iret dX4_spotOf_7 rfl ⟨_, rfl, h⟩
def w_X4_cellsReached_p71 (post : Int32 → am_I → am_N → Prop) (l2 : Int64) (l4 : Int32) (l8 : Int64) (M : am_I) (N : am_N) : Prop :=
  w_X4_reached l2 l8 l4 M N (fun zr1 zM2 zN3 => w_J13_bitCount_95d88 zr1 zM2 zN3 (fun zr4 zM5 zN6 => post zr4 zM5 zN6))
set_option maxRecDepth 10000 in
theorem k_X4_cellsReached_p71 {d : Nat} {dm : List am_C}  {post : Int32 → am_I → am_N → Prop} (l2 : Int64) (l4 : Int32) (l8 : Int64) (M : am_I) (N : am_N) (h : w_X4_cellsReached_p71 post l2 l4 l8 M N) : jg (d + 3) mX4_cellsReached dm 71 [(2, .inr (.inl l2)), (4, .inl l4), (8, .inr (.inl l8))] [] M N (am_pi post) := by
  refine j_lload_n 0 dX4_cellsReached_71 rfl ?_
  refine j_lload 2 dX4_cellsReached_72 rfl ?_
  refine j_iload 1 dX4_cellsReached_74 rfl ?_
  refine j_invS (As := [.inr (.inl l2), .inr (.inl l8), .inl l4]) dX4_cellsReached_76 msRX4_13 mbX4_reached rfl rfl (Nat.le_of_ble_eq_true rfl) (Nat.le_of_ble_eq_true rfl) (by omega) (k_X4_reached (d := d + 0)  h) ?_
  rintro _ zM2 zN3 ⟨zr1, rfl, h⟩
  refine j_invS (As := [.inr (.inl zr1)]) dX4_cellsReached_79 msRX4_25 mbJ13_bitCount_95d88 rfl rfl (Nat.le_of_ble_eq_true rfl) (Nat.le_of_ble_eq_true rfl) (by omega) (k_J13_bitCount_95d88 (d := d + 1)  h) ?_
  rintro _ zM5 zN6 ⟨zr4, rfl, h⟩
  exact j_iret dX4_cellsReached_82 rfl ⟨_, rfl, h⟩
def w_X4_cellsReached_p9_b (post : Int32 → am_I → am_N → Prop) (zk9 : Int64 → Int32 → Int64 → Int32 → Int64 → Int32 → Int32 → am_I → am_N → Prop) (l2 : Int64) (l4 : Int32) (l5 : Int64) (l7 : Int32) (l8 : Int64) (l10 : Int32) (l11 : Int32) (M : am_I) (N : am_N) : Prop :=
  ((64 ≤ l11 → w_X4_cellsReached_p71 post l2 l4 l8 M N) ∧ (¬ 64 ≤ l11 → (((l7 >>> (l10 &&& 31)) = 0 → w_X4_cellsReached_p71 post l2 l4 l8 M N) ∧ (¬ (l7 >>> (l10 &&& 31)) = 0 → w_X11_bit l11 M N (fun zr1 zM2 zN3 => (((l5 &&& zr1) = 0 → zk9 l2 l4 l5 l7 l8 l10 (l11 + 1) zM2 zN3) ∧ (¬ (l5 &&& zr1) = 0 → ((¬ ((l7 >>> (l10 &&& 31)) &&& 1) = 1 → zk9 l2 l4 l5 l7 l8 (l10 + 1) (l11 + 1) zM2 zN3) ∧ (((l7 >>> (l10 &&& 31)) &&& 1) = 1 → w_X11_bit l11 zM2 zN3 (fun zr4 zM5 zN6 => ∀ zv7 : Int64, zv7 = l8 &&& (zr4 ^^^ (-1)) → zk9 l2 l4 l5 l7 zv7 (l10 + 1) (l11 + 1) zM5 zN6))))))))))
noncomputable def w_X4_cellsReached_p9 (post : Int32 → am_I → am_N → Prop) (n : Nat) : Int64 → Int32 → Int64 → Int32 → Int64 → Int32 → Int32 → am_I → am_N → Prop :=
  Nat.rec (motive := fun _ => Int64 → Int32 → Int64 → Int32 → Int64 → Int32 → Int32 → am_I → am_N → Prop) (fun _ _ _ _ _ _ _ _ _ => False) (fun _ zk => w_X4_cellsReached_p9_b post zk) n
theorem w_X4_cellsReached_p9_s (post : Int32 → am_I → am_N → Prop) (n : Nat) (l2 : Int64) (l4 : Int32) (l5 : Int64) (l7 : Int32) (l8 : Int64) (l10 : Int32) (l11 : Int32) (M : am_I) (N : am_N) : w_X4_cellsReached_p9 post (n + 1) l2 l4 l5 l7 l8 l10 l11 M N = w_X4_cellsReached_p9_b post (w_X4_cellsReached_p9 post n) l2 l4 l5 l7 l8 l10 l11 M N := rfl
set_option maxRecDepth 10000 in
theorem k_X4_cellsReached_p9 {d : Nat} {dm : List am_C}  {post : Int32 → am_I → am_N → Prop} : ∀ (n : Nat) (l2 : Int64) (l4 : Int32) (l5 : Int64) (l7 : Int32) (l8 : Int64) (l10 : Int32) (l11 : Int32) (M : am_I) (N : am_N), w_X4_cellsReached_p9 post n l2 l4 l5 l7 l8 l10 l11 M N → jg (d + 3) mX4_cellsReached dm 9 [(2, .inr (.inl l2)), (4, .inl l4), (5, .inr (.inl l5)), (7, .inl l7), (8, .inr (.inl l8)), (10, .inl l10), (11, .inl l11)] [] M N (am_pi post) := by
  intro n
  induction n with
  | zero => intro l2 l4 l5 l7 l8 l10 l11 M N h; exact h.elim
  | succ n zih =>
    intro l2 l4 l5 l7 l8 l10 l11 M N h
    replace h : w_X4_cellsReached_p9_b post (w_X4_cellsReached_p9 post n) l2 l4 l5 l7 l8 l10 l11 M N := h
    refine j_iload 6 dX4_cellsReached_9 rfl ?_
    refine j_bipush (v := 64) dX4_cellsReached_11 (by decide) ?_
    refine j_icmp_ge (tgt := 71) dX4_cellsReached_13 (by decide) (fun hc => ?_) (fun hc => ?_)
    · replace h := h.1 hc
      refine j_sub [0, 1, 4] rfl ?_
      exact k_X4_cellsReached_p71  _ _ _ _ _ h
    · replace h := h.2 hc
      refine j_iload 3 dX4_cellsReached_16 rfl ?_
      refine j_iload 5 dX4_cellsReached_18 rfl ?_
      refine j_ishr dX4_cellsReached_20 ?_
      refine j_if_eq (tgt := 71) dX4_cellsReached_21 (by decide) (fun hc => ?_) (fun hc => ?_)
      · replace h := h.1 hc
        refine j_sub [0, 1, 4] rfl ?_
        exact k_X4_cellsReached_p71  _ _ _ _ _ h
      · replace h := h.2 hc
        refine j_lload 2 dX4_cellsReached_24 rfl ?_
        refine j_iload 6 dX4_cellsReached_26 rfl ?_
        refine j_invS (As := [.inl l11]) dX4_cellsReached_28 msRX4_9 mbX11_bit rfl rfl (Nat.le_of_ble_eq_true rfl) (Nat.le_of_ble_eq_true rfl) (by omega) (k_X11_bit (d := d + 1)  h) ?_
        rintro _ zM2 zN3 ⟨zr1, rfl, h⟩
        refine j_land dX4_cellsReached_31 ?_
        refine j_lconst (v := 0) dX4_cellsReached_32 (by decide) ?_
        refine j_lcmp_eq (tgt := 65) dX4_cellsReached_33 dX4_cellsReached_34 (by decide) (fun hc => ?_) (fun hc => ?_)
        · replace h := h.1 hc
          refine j_iinc 6 dX4_cellsReached_65 rfl rfl (by decide) rfl ?_
          refine j_goto (tgt := 9) dX4_cellsReached_68 (by decide) ?_
          refine j_sub [1, 2, 3, 4, 5, 6, 0] rfl ?_
          exact zih _ _ _ _ _ _ _ _ _ h
        · replace h := h.2 hc
          refine j_iload 3 dX4_cellsReached_37 rfl ?_
          refine j_iload 5 dX4_cellsReached_39 rfl ?_
          refine j_ishr dX4_cellsReached_41 ?_
          refine j_iconst (v := 1) dX4_cellsReached_42 (by decide) ?_
          refine j_iand dX4_cellsReached_43 ?_
          refine j_iconst (v := 1) dX4_cellsReached_44 (by decide) ?_
          refine j_icmp_ne (tgt := 62) dX4_cellsReached_45 (by decide) (fun hc => ?_) (fun hc => ?_)
          · replace h := h.1 hc
            refine j_iinc 5 dX4_cellsReached_62 rfl rfl (by decide) rfl ?_
            refine j_iinc 6 dX4_cellsReached_65 rfl rfl (by decide) rfl ?_
            refine j_goto (tgt := 9) dX4_cellsReached_68 (by decide) ?_
            refine j_sub [2, 3, 4, 5, 6, 1, 0] rfl ?_
            exact zih _ _ _ _ _ _ _ _ _ h
          · replace h := h.2 hc
            refine j_lload 4 dX4_cellsReached_48 rfl ?_
            refine j_iload 6 dX4_cellsReached_50 rfl ?_
            refine j_invS (As := [.inl l11]) dX4_cellsReached_52 msRX4_9 mbX11_bit rfl rfl (Nat.le_of_ble_eq_true rfl) (Nat.le_of_ble_eq_true rfl) (by omega) (k_X11_bit (d := d + 1)  h) ?_
            rintro _ zM5 zN6 ⟨zr4, rfl, h⟩
            refine j_ldc2 (v := (-1)) dX4_cellsReached_55 cw_994 ?_
            refine j_lxor dX4_cellsReached_58 ?_
            refine j_land dX4_cellsReached_59 ?_
            refine j_topl (fun zv7 hzv7 => ?_)
            replace h := h zv7 hzv7
            refine j_lstore dX4_cellsReached_60 (by decide) rfl ?_
            refine j_iinc 5 dX4_cellsReached_62 rfl rfl (by decide) rfl ?_
            refine j_iinc 6 dX4_cellsReached_65 rfl rfl (by decide) rfl ?_
            refine j_goto (tgt := 9) dX4_cellsReached_68 (by decide) ?_
            refine j_sub [3, 4, 5, 6, 2, 1, 0] rfl ?_
            exact zih _ _ _ _ _ _ _ _ _ h
def w_X4_cellsReached (a1 : Int64) (a2 : Int64) (a3 : Int32) (a4 : Int64) (a5 : Int32) (M : am_I) (N : am_N) (post : Int32 → am_I → am_N → Prop) : Prop :=
  ∃ n, w_X4_cellsReached_p9 post n a2 a3 a4 a5 a1 0 0 M N
set_option maxRecDepth 10000 in
theorem k_X4_cellsReached {d : Nat} {dm : List am_C}  {a1 : Int64} {a2 : Int64} {a3 : Int32} {a4 : Int64} {a5 : Int32} {M : am_I} {N : am_N} {post : Int32 → am_I → am_N → Prop} (h : w_X4_cellsReached a1 a2 a3 a4 a5 M N post) : jg (d + 3) mX4_cellsReached dm 0 [(0, .inr (.inl a1)), (2, .inr (.inl a2)), (4, .inl a3), (5, .inr (.inl a4)), (7, .inl a5)] [] M N (am_pi post) := by
  refine j_lload_n 0 dX4_cellsReached_0 rfl ?_
  refine j_lstore dX4_cellsReached_1 (by decide) rfl ?_
  refine j_iconst (v := 0) dX4_cellsReached_3 (by decide) ?_
  refine j_istore dX4_cellsReached_4 (by decide) rfl ?_
  refine j_iconst (v := 0) dX4_cellsReached_6 (by decide) ?_
  refine j_istore dX4_cellsReached_7 (by decide) rfl ?_
  refine j_sub [4, 5, 6, 7, 2, 1, 0] rfl ?_
  obtain ⟨n, h⟩ := h
  exact k_X4_cellsReached_p9  n _ _ _ _ _ _ _ _ _ h
def w_X4_pullOf_p153 (post : Int32 → am_I → am_N → Prop) (zk91 : Int64 → Int64 → Int32 → Int32 → Int32 → Int64 → Int32 → Int32 → Int32 → Int32 → am_I → am_N → Prop) (l0 : Int64) (l2 : Int64) (l4 : Int32) (l5 : Int32) (l6 : Int32) (l7 : Int64) (l9 : Int32) (l12 : Int32) (l13 : Int32) (M : am_I) (N : am_N) : Prop :=
  zk91 l0 l2 l4 l5 l6 l7 l9 l12 l13 (l12 + 1) M N
set_option maxRecDepth 10000 in
theorem k_X4_pullOf_p153 {d : Nat} {dm : List am_C}  {post : Int32 → am_I → am_N → Prop} {zk91 : Int64 → Int64 → Int32 → Int32 → Int32 → Int64 → Int32 → Int32 → Int32 → Int32 → am_I → am_N → Prop} (zhk91 : ∀ (l0 : Int64) (l2 : Int64) (l4 : Int32) (l5 : Int32) (l6 : Int32) (l7 : Int64) (l9 : Int32) (l10 : Int32) (l11 : Int32) (l12 : Int32) (M : am_I) (N : am_N), zk91 l0 l2 l4 l5 l6 l7 l9 l10 l11 l12 M N → jg (d + 4) mX4_pullOf dm 91 [(0, .inr (.inl l0)), (2, .inr (.inl l2)), (4, .inl l4), (5, .inl l5), (6, .inl l6), (7, .inr (.inl l7)), (9, .inl l9), (10, .inl l10), (11, .inl l11), (12, .inl l12)] [] M N (am_pi post)) (l0 : Int64) (l2 : Int64) (l4 : Int32) (l5 : Int32) (l6 : Int32) (l7 : Int64) (l9 : Int32) (l12 : Int32) (l13 : Int32) (M : am_I) (N : am_N) (h : w_X4_pullOf_p153 post zk91 l0 l2 l4 l5 l6 l7 l9 l12 l13 M N) : jg (d + 4) mX4_pullOf dm 153 [(0, .inr (.inl l0)), (2, .inr (.inl l2)), (4, .inl l4), (5, .inl l5), (6, .inl l6), (7, .inr (.inl l7)), (9, .inl l9), (12, .inl l12), (13, .inl l13)] [] M N (am_pi post) := by
  refine j_iload 7 dX4_pullOf_153 rfl ?_
  refine j_istore dX4_pullOf_155 (by decide) rfl ?_
  refine j_iload 9 dX4_pullOf_157 rfl ?_
  refine j_istore dX4_pullOf_159 (by decide) rfl ?_
  refine j_iinc 9 dX4_pullOf_161 rfl rfl (by decide) rfl ?_
  refine j_goto (tgt := 91) dX4_pullOf_164 (by decide) ?_
  refine j_sub [3, 4, 5, 6, 7, 8, 9, 2, 1, 0] rfl ?_
  exact zhk91 _ _ _ _ _ _ _ _ _ _ _ _ h
def w_X4_pullOf_p91_b (post : Int32 → am_I → am_N → Prop) (zk91 : Int64 → Int64 → Int32 → Int32 → Int32 → Int64 → Int32 → Int32 → Int32 → Int32 → am_I → am_N → Prop) (l0 : Int64) (l2 : Int64) (l4 : Int32) (l5 : Int32) (l6 : Int32) (l7 : Int64) (l9 : Int32) (l10 : Int32) (l11 : Int32) (l12 : Int32) (M : am_I) (N : am_N) : Prop :=
  ((((1 : Int32) <<< (l9 &&& 31)) ≤ l12 → ((¬ l6 = 0 → post ((l10 >>> ((l6 - 20) &&& 31)) &&& 1) M N) ∧ (l6 = 0 → post l11 M N))) ∧ (¬ ((1 : Int32) <<< (l9 &&& 31)) ≤ l12 → w_J6_bitCount_0f7a4 l12 M N (fun zr1 zM2 zN3 => ((zr1 ≤ l4 → w_X4_cellsReached l0 l2 l5 l7 l12 zM2 zN3 (fun zr4 zM5 zN6 => ((zr4 < l11 → w_X4_pullOf_p153 post zk91 l0 l2 l4 l5 l6 l7 l9 l12 zr4 zM5 zN6) ∧ (¬ zr4 < l11 → ((¬ zr4 = l11 → zk91 l0 l2 l4 l5 l6 l7 l9 l10 l11 (l12 + 1) zM5 zN6) ∧ (zr4 = l11 → w_J6_bitCount_0f7a4 l12 zM5 zN6 (fun zr7 zM8 zN9 => w_J6_bitCount_0f7a4 l10 zM8 zN9 (fun zr10 zM11 zN12 => ((zr10 ≤ zr7 → zk91 l0 l2 l4 l5 l6 l7 l9 l10 l11 (l12 + 1) zM11 zN12) ∧ (¬ zr10 ≤ zr7 → w_X4_pullOf_p153 post zk91 l0 l2 l4 l5 l6 l7 l9 l12 zr4 zM11 zN12)))))))))) ∧ (¬ zr1 ≤ l4 → zk91 l0 l2 l4 l5 l6 l7 l9 l10 l11 (l12 + 1) zM2 zN3)))))
noncomputable def w_X4_pullOf_p91 (post : Int32 → am_I → am_N → Prop) (n : Nat) : Int64 → Int64 → Int32 → Int32 → Int32 → Int64 → Int32 → Int32 → Int32 → Int32 → am_I → am_N → Prop :=
  Nat.rec (motive := fun _ => Int64 → Int64 → Int32 → Int32 → Int32 → Int64 → Int32 → Int32 → Int32 → Int32 → am_I → am_N → Prop) (fun _ _ _ _ _ _ _ _ _ _ _ _ => False) (fun _ zk => w_X4_pullOf_p91_b post zk) n
theorem w_X4_pullOf_p91_s (post : Int32 → am_I → am_N → Prop) (n : Nat) (l0 : Int64) (l2 : Int64) (l4 : Int32) (l5 : Int32) (l6 : Int32) (l7 : Int64) (l9 : Int32) (l10 : Int32) (l11 : Int32) (l12 : Int32) (M : am_I) (N : am_N) : w_X4_pullOf_p91 post (n + 1) l0 l2 l4 l5 l6 l7 l9 l10 l11 l12 M N = w_X4_pullOf_p91_b post (w_X4_pullOf_p91 post n) l0 l2 l4 l5 l6 l7 l9 l10 l11 l12 M N := rfl
set_option maxRecDepth 10000 in
theorem k_X4_pullOf_p91 {d : Nat} {dm : List am_C}  {post : Int32 → am_I → am_N → Prop} : ∀ (n : Nat) (l0 : Int64) (l2 : Int64) (l4 : Int32) (l5 : Int32) (l6 : Int32) (l7 : Int64) (l9 : Int32) (l10 : Int32) (l11 : Int32) (l12 : Int32) (M : am_I) (N : am_N), w_X4_pullOf_p91 post n l0 l2 l4 l5 l6 l7 l9 l10 l11 l12 M N → jg (d + 4) mX4_pullOf dm 91 [(0, .inr (.inl l0)), (2, .inr (.inl l2)), (4, .inl l4), (5, .inl l5), (6, .inl l6), (7, .inr (.inl l7)), (9, .inl l9), (10, .inl l10), (11, .inl l11), (12, .inl l12)] [] M N (am_pi post) := by
  intro n
  induction n with
  | zero => intro l0 l2 l4 l5 l6 l7 l9 l10 l11 l12 M N h; exact h.elim
  | succ n zih =>
    intro l0 l2 l4 l5 l6 l7 l9 l10 l11 l12 M N h
    replace h : w_X4_pullOf_p91_b post (w_X4_pullOf_p91 post n) l0 l2 l4 l5 l6 l7 l9 l10 l11 l12 M N := h
    refine j_iload 9 dX4_pullOf_91 rfl ?_
    refine j_iconst (v := 1) dX4_pullOf_93 (by decide) ?_
    refine j_iload 6 dX4_pullOf_94 rfl ?_
    refine j_ishl dX4_pullOf_96 ?_
    refine j_icmp_ge (tgt := 167) dX4_pullOf_97 (by decide) (fun hc => ?_) (fun hc => ?_)
    · replace h := h.1 hc
      refine j_iload 4 dX4_pullOf_167 rfl ?_
      refine j_if_ne (tgt := 177) dX4_pullOf_169 (by decide) (fun hc => ?_) (fun hc => ?_)
      · replace h := h.1 hc
        refine j_iload 7 dX4_pullOf_177 rfl ?_
        refine j_iload 4 dX4_pullOf_179 rfl ?_
        refine j_bipush (v := 20) dX4_pullOf_181 (by decide) ?_
        refine j_isub dX4_pullOf_183 ?_
        refine j_ishr dX4_pullOf_184 ?_
        refine j_iconst (v := 1) dX4_pullOf_185 (by decide) ?_
        refine j_iand dX4_pullOf_186 ?_
        exact j_iret dX4_pullOf_187 rfl ⟨_, rfl, h⟩
      · replace h := h.2 hc
        refine j_iload 8 dX4_pullOf_172 rfl ?_
        refine j_goto (tgt := 187) dX4_pullOf_174 (by decide) ?_
        exact j_iret dX4_pullOf_187 rfl ⟨_, rfl, h⟩
    · replace h := h.2 hc
      refine j_iload 9 dX4_pullOf_100 rfl ?_
      refine j_invS (As := [.inl l12]) dX4_pullOf_102 msRX4_49 mbJ6_bitCount_0f7a4 rfl rfl (Nat.le_of_ble_eq_true rfl) (Nat.le_of_ble_eq_true rfl) (by omega) (k_J6_bitCount_0f7a4 (d := d + 2)  h) ?_
      rintro _ zM2 zN3 ⟨zr1, rfl, h⟩
      refine j_iload 2 dX4_pullOf_105 rfl ?_
      refine j_icmp_le (tgt := 113) dX4_pullOf_107 (by decide) (fun hc => ?_) (fun hc => ?_)
      · replace h := h.1 hc
        refine j_lload_n 0 dX4_pullOf_113 rfl ?_
        refine j_lload_n 1 dX4_pullOf_114 rfl ?_
        refine j_iload 3 dX4_pullOf_115 rfl ?_
        refine j_lload 5 dX4_pullOf_117 rfl ?_
        refine j_iload 9 dX4_pullOf_119 rfl ?_
        refine j_invS (As := [.inr (.inl l0), .inr (.inl l2), .inl l5, .inr (.inl l7), .inl l12]) dX4_pullOf_121 msRX4_45 mbX4_cellsReached rfl rfl (Nat.le_of_ble_eq_true rfl) (Nat.le_of_ble_eq_true rfl) (by omega) (k_X4_cellsReached (d := d + 0)  h) ?_
        rintro _ zM5 zN6 ⟨zr4, rfl, h⟩
        refine j_istore dX4_pullOf_124 (by decide) rfl ?_
        refine j_iload 0 dX4_pullOf_126 rfl ?_
        refine j_iload 9 dX4_pullOf_128 rfl ?_
        refine j_icmp_lt (tgt := 153) dX4_pullOf_130 (by decide) (fun hc => ?_) (fun hc => ?_)
        · replace h := h.1 hc
          refine j_sub [1, 2, 3, 4, 5, 6, 7, 10, 0] rfl ?_
          exact k_X4_pullOf_p153  zih _ _ _ _ _ _ _ _ _ _ _ h
        · replace h := h.2 hc
          refine j_iload 0 dX4_pullOf_133 rfl ?_
          refine j_iload 9 dX4_pullOf_135 rfl ?_
          refine j_icmp_ne (tgt := 161) dX4_pullOf_137 (by decide) (fun hc => ?_) (fun hc => ?_)
          · replace h := h.1 hc
            refine j_iinc 10 dX4_pullOf_161 rfl rfl (by decide) rfl ?_
            refine j_goto (tgt := 91) dX4_pullOf_164 (by decide) ?_
            refine j_sub [2, 3, 4, 5, 6, 7, 8, 9, 10, 0] rfl ?_
            exact zih _ _ _ _ _ _ _ _ _ _ _ _ h
          · replace h := h.2 hc
            refine j_iload 10 dX4_pullOf_140 rfl ?_
            refine j_invS (As := [.inl l12]) dX4_pullOf_142 msRX4_49 mbJ6_bitCount_0f7a4 rfl rfl (Nat.le_of_ble_eq_true rfl) (Nat.le_of_ble_eq_true rfl) (by omega) (k_J6_bitCount_0f7a4 (d := d + 2)  h) ?_
            rintro _ zM8 zN9 ⟨zr7, rfl, h⟩
            refine j_iload 8 dX4_pullOf_145 rfl ?_
            refine j_invS (As := [.inl l10]) dX4_pullOf_147 msRX4_49 mbJ6_bitCount_0f7a4 rfl rfl (Nat.le_of_ble_eq_true rfl) (Nat.le_of_ble_eq_true rfl) (by omega) (k_J6_bitCount_0f7a4 (d := d + 2)  h) ?_
            rintro _ zM11 zN12 ⟨zr10, rfl, h⟩
            refine j_icmp_ge (tgt := 161) dX4_pullOf_150 (by decide) (fun hc => ?_) (fun hc => ?_)
            · replace h := h.1 hc
              refine j_iinc 10 dX4_pullOf_161 rfl rfl (by decide) rfl ?_
              refine j_goto (tgt := 91) dX4_pullOf_164 (by decide) ?_
              refine j_sub [2, 3, 4, 5, 6, 7, 8, 9, 10, 0] rfl ?_
              exact zih _ _ _ _ _ _ _ _ _ _ _ _ h
            · replace h := h.2 hc
              refine j_sub [1, 2, 3, 4, 5, 6, 7, 10, 0] rfl ?_
              exact k_X4_pullOf_p153  zih _ _ _ _ _ _ _ _ _ _ _ h
      · replace h := h.2 hc
        refine j_goto (tgt := 161) dX4_pullOf_110 (by decide) ?_
        refine j_iinc 9 dX4_pullOf_161 rfl rfl (by decide) rfl ?_
        refine j_goto (tgt := 91) dX4_pullOf_164 (by decide) ?_
        refine j_sub [1, 2, 3, 4, 5, 6, 7, 8, 9, 0] rfl ?_
        exact zih _ _ _ _ _ _ _ _ _ _ _ _ h
def w_X4_pullOf_p73 (post : Int32 → am_I → am_N → Prop) (l0 : Int64) (l2 : Int64) (l4 : Int32) (l5 : Int32) (l6 : Int32) (l7 : Int64) (l9 : Int32) (M : am_I) (N : am_N) : Prop :=
  w_X4_cellsReached l0 l2 l5 l7 0 M N (fun zr1 zM2 zN3 => ∃ n, w_X4_pullOf_p91 post n l0 l2 l4 l5 l6 l7 l9 0 zr1 1 zM2 zN3)
set_option maxRecDepth 10000 in
theorem k_X4_pullOf_p73 {d : Nat} {dm : List am_C}  {post : Int32 → am_I → am_N → Prop} (l0 : Int64) (l2 : Int64) (l4 : Int32) (l5 : Int32) (l6 : Int32) (l7 : Int64) (l9 : Int32) (M : am_I) (N : am_N) (h : w_X4_pullOf_p73 post l0 l2 l4 l5 l6 l7 l9 M N) : jg (d + 4) mX4_pullOf dm 73 [(0, .inr (.inl l0)), (2, .inr (.inl l2)), (4, .inl l4), (5, .inl l5), (6, .inl l6), (7, .inr (.inl l7)), (9, .inl l9)] [] M N (am_pi post) := by
  refine j_iconst (v := 0) dX4_pullOf_73 (by decide) ?_
  refine j_istore dX4_pullOf_74 (by decide) rfl ?_
  refine j_lload_n 1 dX4_pullOf_76 rfl ?_
  refine j_lload_n 2 dX4_pullOf_77 rfl ?_
  refine j_iload 4 dX4_pullOf_78 rfl ?_
  refine j_lload 6 dX4_pullOf_80 rfl ?_
  refine j_iconst (v := 0) dX4_pullOf_82 (by decide) ?_
  refine j_invS (As := [.inr (.inl l0), .inr (.inl l2), .inl l5, .inr (.inl l7), .inl 0]) dX4_pullOf_83 msRX4_45 mbX4_cellsReached rfl rfl (Nat.le_of_ble_eq_true rfl) (Nat.le_of_ble_eq_true rfl) (by omega) (k_X4_cellsReached (d := d + 0)  h) ?_
  rintro _ zM2 zN3 ⟨zr1, rfl, h⟩
  refine j_istore dX4_pullOf_86 (by decide) rfl ?_
  refine j_iconst (v := 1) dX4_pullOf_88 (by decide) ?_
  refine j_istore dX4_pullOf_89 (by decide) rfl ?_
  refine j_sub [3, 4, 5, 6, 7, 8, 9, 2, 1, 0] rfl ?_
  obtain ⟨n, h⟩ := h
  exact k_X4_pullOf_p91  n _ _ _ _ _ _ _ _ _ _ _ _ h
def w_X4_pullOf (a1 : Int64) (a2 : Int64) (a3 : Int32) (a4 : Int32) (a5 : Int32) (M : am_I) (N : am_N) (post : Int32 → am_I → am_N → Prop) : Prop :=
  w_X4_stepped a2 a1 M N (fun zr1 zM2 zN3 => ∀ zv4 : Int64, zv4 = zr1 &&& (a2 ^^^ (-1)) → w_J13_bitCount_95d88 zv4 zM2 zN3 (fun zr5 zM6 zN7 => w_J9_min_7cf53 8 zr5 zM6 zN7 (fun zr8 zM9 zN10 => w_X11_within a5 10 (9 + zr8) zM9 zN10 (fun zr11 zM12 zN13 => ((zr11 = 0 → ((a5 = 0 → w_X4_pullOf_p73 post a1 a2 a3 a4 a5 zv4 zr8 zM12 zN13) ∧ (¬ a5 = 0 → w_X11_within a5 20 (19 + zr8) zM12 zN13 (fun zr14 zM15 zN16 => ((¬ zr14 = 0 → w_X4_pullOf_p73 post a1 a2 a3 a4 a5 zv4 zr8 zM15 zN16) ∧ (zr14 = 0 → post (-1) zM15 zN16)))))) ∧ (¬ zr11 = 0 → w_X4_cellNumbered zv4 (a5 - 10) zM12 zN13 (fun zr17 zM18 zN19 => post zr17 zM18 zN19)))))))
set_option maxRecDepth 10000 in
theorem k_X4_pullOf {d : Nat} {dm : List am_C}  {a1 : Int64} {a2 : Int64} {a3 : Int32} {a4 : Int32} {a5 : Int32} {M : am_I} {N : am_N} {post : Int32 → am_I → am_N → Prop} (h : w_X4_pullOf a1 a2 a3 a4 a5 M N post) : jg (d + 4) mX4_pullOf dm 0 [(0, .inr (.inl a1)), (2, .inr (.inl a2)), (4, .inl a3), (5, .inl a4), (6, .inl a5)] [] M N (am_pi post) := by
  refine j_lload_n 1 dX4_pullOf_0 rfl ?_
  refine j_lload_n 0 dX4_pullOf_1 rfl ?_
  refine j_invS (As := [.inr (.inl a2), .inr (.inl a1)]) dX4_pullOf_2 msRX4_21 mbX4_stepped rfl rfl (Nat.le_of_ble_eq_true rfl) (Nat.le_of_ble_eq_true rfl) (by omega) (k_X4_stepped (d := d + 2)  h) ?_
  rintro _ zM2 zN3 ⟨zr1, rfl, h⟩
  refine j_lload_n 1 dX4_pullOf_5 rfl ?_
  refine j_ldc2 (v := (-1)) dX4_pullOf_6 cw_994 ?_
  refine j_lxor dX4_pullOf_9 ?_
  refine j_land dX4_pullOf_10 ?_
  refine j_topl (fun zv4 hzv4 => ?_)
  replace h := h zv4 hzv4
  refine j_lstore dX4_pullOf_11 (by decide) rfl ?_
  refine j_bipush (v := 8) dX4_pullOf_13 (by decide) ?_
  refine j_lload 0 dX4_pullOf_15 rfl ?_
  refine j_invS (As := [.inr (.inl zv4)]) dX4_pullOf_17 msRX4_25 mbJ13_bitCount_95d88 rfl rfl (Nat.le_of_ble_eq_true rfl) (Nat.le_of_ble_eq_true rfl) (by omega) (k_J13_bitCount_95d88 (d := d + 2)  h) ?_
  rintro _ zM6 zN7 ⟨zr5, rfl, h⟩
  refine j_invS (As := [.inl 8, .inl zr5]) dX4_pullOf_20 msRX4_31 mbJ9_min_7cf53 rfl rfl (Nat.le_of_ble_eq_true rfl) (Nat.le_of_ble_eq_true rfl) (by omega) (k_J9_min_7cf53 (d := d + 2)  h) ?_
  rintro _ zM9 zN10 ⟨zr8, rfl, h⟩
  refine j_istore dX4_pullOf_23 (by decide) rfl ?_
  refine j_iload 6 dX4_pullOf_25 rfl ?_
  refine j_bipush (v := 10) dX4_pullOf_27 (by decide) ?_
  refine j_bipush (v := 9) dX4_pullOf_29 (by decide) ?_
  refine j_iload 0 dX4_pullOf_31 rfl ?_
  refine j_iadd dX4_pullOf_33 ?_
  refine j_invS (As := [.inl a5, .inl 10, .inl (9 + zr8)]) dX4_pullOf_34 msRX4_37 mbX11_within rfl rfl (Nat.le_of_ble_eq_true rfl) (Nat.le_of_ble_eq_true rfl) (by omega) (k_X11_within (d := d + 2)  h) ?_
  rintro _ zM12 zN13 ⟨zr11, rfl, h⟩
  refine j_if_eq (tgt := 51) dX4_pullOf_37 (by decide) (fun hc => ?_) (fun hc => ?_)
  · replace h := h.1 hc
    refine j_iload 6 dX4_pullOf_51 rfl ?_
    refine j_if_eq (tgt := 73) dX4_pullOf_53 (by decide) (fun hc => ?_) (fun hc => ?_)
    · replace h := h.1 hc
      refine j_sub [2, 3, 4, 5, 6, 1, 0] rfl ?_
      exact k_X4_pullOf_p73  _ _ _ _ _ _ _ _ _ h
    · replace h := h.2 hc
      refine j_iload 6 dX4_pullOf_56 rfl ?_
      refine j_bipush (v := 20) dX4_pullOf_58 (by decide) ?_
      refine j_bipush (v := 19) dX4_pullOf_60 (by decide) ?_
      refine j_iload 0 dX4_pullOf_62 rfl ?_
      refine j_iadd dX4_pullOf_64 ?_
      refine j_invS (As := [.inl a5, .inl 20, .inl (19 + zr8)]) dX4_pullOf_65 msRX4_37 mbX11_within rfl rfl (Nat.le_of_ble_eq_true rfl) (Nat.le_of_ble_eq_true rfl) (by omega) (k_X11_within (d := d + 2)  h) ?_
      rintro _ zM15 zN16 ⟨zr14, rfl, h⟩
      refine j_if_ne (tgt := 73) dX4_pullOf_68 (by decide) (fun hc => ?_) (fun hc => ?_)
      · replace h := h.1 hc
        refine j_sub [2, 3, 4, 5, 6, 1, 0] rfl ?_
        exact k_X4_pullOf_p73  _ _ _ _ _ _ _ _ _ h
      · replace h := h.2 hc
        refine j_iconst (v := (-1)) dX4_pullOf_71 (by decide) ?_
        exact j_iret dX4_pullOf_72 rfl ⟨_, rfl, h⟩
  · replace h := h.2 hc
    refine j_lload 1 dX4_pullOf_40 rfl ?_
    refine j_iload 6 dX4_pullOf_42 rfl ?_
    refine j_bipush (v := 10) dX4_pullOf_44 (by decide) ?_
    refine j_isub dX4_pullOf_46 ?_
    refine j_invS (As := [.inr (.inl zv4), .inl (a5 - 10)]) dX4_pullOf_47 msRX4_41 mbX4_cellNumbered rfl rfl (Nat.le_of_ble_eq_true rfl) (Nat.le_of_ble_eq_true rfl) (by omega) (k_X4_cellNumbered (d := d + 1)  h) ?_
    rintro _ zM18 zN19 ⟨zr17, rfl, h⟩
    exact j_iret dX4_pullOf_50 rfl ⟨_, rfl, h⟩
