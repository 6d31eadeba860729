/-! ===== methods: 15.paths ===== -/
theorem dX5_takeNearest_0 : decode mX5_takeNearest.2.1 0 = .ok (.iconst 0, 1) := by decide +kernel
theorem dX5_takeNearest_1 : decode mX5_takeNearest.2.1 1 = .ok (.istore_n 2, 1) := by decide +kernel
theorem dX5_takeNearest_2 : decode mX5_takeNearest.2.1 2 = .ok (.iconst 1, 1) := by decide +kernel
theorem dX5_takeNearest_3 : decode mX5_takeNearest.2.1 3 = .ok (.istore_n 3, 1) := by decide +kernel
theorem dX5_takeNearest_4 : decode mX5_takeNearest.2.1 4 = .ok (.iload_n 3, 1) := by decide +kernel
theorem dX5_takeNearest_5 : decode mX5_takeNearest.2.1 5 = .ok (.aload_n 0, 1) := by decide +kernel
theorem dX5_takeNearest_6 : decode mX5_takeNearest.2.1 6 = .ok (.getfield 62, 3) := by decide +kernel
theorem dX5_takeNearest_9 : decode mX5_takeNearest.2.1 9 = .ok (.if_icmp .ge 40, 3) := by decide +kernel
theorem dX5_takeNearest_12 : decode mX5_takeNearest.2.1 12 = .ok (.aload_n 0, 1) := by decide +kernel
theorem dX5_takeNearest_13 : decode mX5_takeNearest.2.1 13 = .ok (.getfield 9, 3) := by decide +kernel
theorem dX5_takeNearest_16 : decode mX5_takeNearest.2.1 16 = .ok (.iload_n 1, 1) := by decide +kernel
theorem dX5_takeNearest_17 : decode mX5_takeNearest.2.1 17 = .ok (.aload_n 0, 1) := by decide +kernel
theorem dX5_takeNearest_18 : decode mX5_takeNearest.2.1 18 = .ok (.getfield 21, 3) := by decide +kernel
theorem dX5_takeNearest_21 : decode mX5_takeNearest.2.1 21 = .ok (.iload_n 3, 1) := by decide +kernel
theorem dX5_takeNearest_22 : decode mX5_takeNearest.2.1 22 = .ok (.iaload, 1) := by decide +kernel
theorem dX5_takeNearest_23 : decode mX5_takeNearest.2.1 23 = .ok (.iadd, 1) := by decide +kernel
theorem dX5_takeNearest_24 : decode mX5_takeNearest.2.1 24 = .ok (.iaload, 1) := by decide +kernel
theorem dX5_takeNearest_25 : decode mX5_takeNearest.2.1 25 = .ok (.aload_n 0, 1) := by decide +kernel
theorem dX5_takeNearest_26 : decode mX5_takeNearest.2.1 26 = .ok (.getfield 9, 3) := by decide +kernel
theorem dX5_takeNearest_29 : decode mX5_takeNearest.2.1 29 = .ok (.iload_n 1, 1) := by decide +kernel
theorem dX5_takeNearest_30 : decode mX5_takeNearest.2.1 30 = .ok (.aload_n 0, 1) := by decide +kernel
theorem dX5_takeNearest_31 : decode mX5_takeNearest.2.1 31 = .ok (.getfield 21, 3) := by decide +kernel
theorem dX5_takeNearest_34 : decode mX5_takeNearest.2.1 34 = .ok (.iload_n 2, 1) := by decide +kernel
theorem dX5_takeNearest_35 : decode mX5_takeNearest.2.1 35 = .ok (.iaload, 1) := by decide +kernel
theorem dX5_takeNearest_36 : decode mX5_takeNearest.2.1 36 = .ok (.iadd, 1) := by decide +kernel
theorem dX5_takeNearest_37 : decode mX5_takeNearest.2.1 37 = .ok (.iaload, 1) := by decide +kernel
theorem dX5_takeNearest_38 : decode mX5_takeNearest.2.1 38 = .ok (.if_icmp .ge 5, 3) := by decide +kernel
theorem dX5_takeNearest_41 : decode mX5_takeNearest.2.1 41 = .ok (.iload_n 3, 1) := by decide +kernel
theorem dX5_takeNearest_42 : decode mX5_takeNearest.2.1 42 = .ok (.istore_n 2, 1) := by decide +kernel
theorem dX5_takeNearest_43 : decode mX5_takeNearest.2.1 43 = .ok (.iinc 3 1, 3) := by decide +kernel
theorem dX5_takeNearest_46 : decode mX5_takeNearest.2.1 46 = .ok (.goto (-42), 3) := by decide +kernel
theorem dX5_takeNearest_49 : decode mX5_takeNearest.2.1 49 = .ok (.aload_n 0, 1) := by decide +kernel
theorem dX5_takeNearest_50 : decode mX5_takeNearest.2.1 50 = .ok (.getfield 21, 3) := by decide +kernel
theorem dX5_takeNearest_53 : decode mX5_takeNearest.2.1 53 = .ok (.iload_n 2, 1) := by decide +kernel
theorem dX5_takeNearest_54 : decode mX5_takeNearest.2.1 54 = .ok (.iaload, 1) := by decide +kernel
theorem dX5_takeNearest_55 : decode mX5_takeNearest.2.1 55 = .ok (.istore_n 3, 1) := by decide +kernel
theorem dX5_takeNearest_56 : decode mX5_takeNearest.2.1 56 = .ok (.aload_n 0, 1) := by decide +kernel
theorem dX5_takeNearest_57 : decode mX5_takeNearest.2.1 57 = .ok (.dup, 1) := by decide +kernel
theorem dX5_takeNearest_58 : decode mX5_takeNearest.2.1 58 = .ok (.getfield 62, 3) := by decide +kernel
theorem dX5_takeNearest_61 : decode mX5_takeNearest.2.1 61 = .ok (.iconst 1, 1) := by decide +kernel
theorem dX5_takeNearest_62 : decode mX5_takeNearest.2.1 62 = .ok (.isub, 1) := by decide +kernel
theorem dX5_takeNearest_63 : decode mX5_takeNearest.2.1 63 = .ok (.putfield 62, 3) := by decide +kernel
theorem dX5_takeNearest_66 : decode mX5_takeNearest.2.1 66 = .ok (.aload_n 0, 1) := by decide +kernel
theorem dX5_takeNearest_67 : decode mX5_takeNearest.2.1 67 = .ok (.getfield 21, 3) := by decide +kernel
theorem dX5_takeNearest_70 : decode mX5_takeNearest.2.1 70 = .ok (.iload_n 2, 1) := by decide +kernel
theorem dX5_takeNearest_71 : decode mX5_takeNearest.2.1 71 = .ok (.aload_n 0, 1) := by decide +kernel
theorem dX5_takeNearest_72 : decode mX5_takeNearest.2.1 72 = .ok (.getfield 21, 3) := by decide +kernel
theorem dX5_takeNearest_75 : decode mX5_takeNearest.2.1 75 = .ok (.aload_n 0, 1) := by decide +kernel
theorem dX5_takeNearest_76 : decode mX5_takeNearest.2.1 76 = .ok (.getfield 62, 3) := by decide +kernel
theorem dX5_takeNearest_79 : decode mX5_takeNearest.2.1 79 = .ok (.iaload, 1) := by decide +kernel
theorem dX5_takeNearest_80 : decode mX5_takeNearest.2.1 80 = .ok (.iastore, 1) := by decide +kernel
theorem dX5_takeNearest_81 : decode mX5_takeNearest.2.1 81 = .ok (.iload_n 3, 1) := by decide +kernel
theorem dX5_takeNearest_82 : decode mX5_takeNearest.2.1 82 = .ok (.ireturn, 1) := by decide +kernel
theorem dX5_hasWay_0 : decode mX5_hasWay.2.1 0 = .ok (.iload_n 1, 1) := by decide +kernel
theorem dX5_hasWay_1 : decode mX5_hasWay.2.1 1 = .ok (.ifCond .lt 19, 3) := by decide +kernel
theorem dX5_hasWay_4 : decode mX5_hasWay.2.1 4 = .ok (.iload_n 1, 1) := by decide +kernel
theorem dX5_hasWay_5 : decode mX5_hasWay.2.1 5 = .ok (.bipush 8, 2) := by decide +kernel
theorem dX5_hasWay_7 : decode mX5_hasWay.2.1 7 = .ok (.if_icmp .ge 13, 3) := by decide +kernel
theorem dX5_hasWay_10 : decode mX5_hasWay.2.1 10 = .ok (.iload_n 2, 1) := by decide +kernel
theorem dX5_hasWay_11 : decode mX5_hasWay.2.1 11 = .ok (.ifCond .lt 9, 3) := by decide +kernel
theorem dX5_hasWay_14 : decode mX5_hasWay.2.1 14 = .ok (.iload_n 2, 1) := by decide +kernel
theorem dX5_hasWay_15 : decode mX5_hasWay.2.1 15 = .ok (.bipush 64, 2) := by decide +kernel
theorem dX5_hasWay_17 : decode mX5_hasWay.2.1 17 = .ok (.if_icmp .lt 5, 3) := by decide +kernel
theorem dX5_hasWay_20 : decode mX5_hasWay.2.1 20 = .ok (.iconst 0, 1) := by decide +kernel
theorem dX5_hasWay_21 : decode mX5_hasWay.2.1 21 = .ok (.ireturn, 1) := by decide +kernel
theorem dX5_hasWay_22 : decode mX5_hasWay.2.1 22 = .ok (.aload_n 0, 1) := by decide +kernel
theorem dX5_hasWay_23 : decode mX5_hasWay.2.1 23 = .ok (.getfield 9, 3) := by decide +kernel
theorem dX5_hasWay_26 : decode mX5_hasWay.2.1 26 = .ok (.iload_n 1, 1) := by decide +kernel
theorem dX5_hasWay_27 : decode mX5_hasWay.2.1 27 = .ok (.bipush 64, 2) := by decide +kernel
theorem dX5_hasWay_29 : decode mX5_hasWay.2.1 29 = .ok (.imul, 1) := by decide +kernel
theorem dX5_hasWay_30 : decode mX5_hasWay.2.1 30 = .ok (.iload_n 2, 1) := by decide +kernel
theorem dX5_hasWay_31 : decode mX5_hasWay.2.1 31 = .ok (.iadd, 1) := by decide +kernel
theorem dX5_hasWay_32 : decode mX5_hasWay.2.1 32 = .ok (.iaload, 1) := by decide +kernel
theorem dX5_hasWay_33 : decode mX5_hasWay.2.1 33 = .ok (.ldc 36, 2) := by decide +kernel
theorem dX5_hasWay_35 : decode mX5_hasWay.2.1 35 = .ok (.if_icmp .ge 7, 3) := by decide +kernel
theorem dX5_hasWay_38 : decode mX5_hasWay.2.1 38 = .ok (.iconst 1, 1) := by decide +kernel
theorem dX5_hasWay_39 : decode mX5_hasWay.2.1 39 = .ok (.goto 4, 3) := by decide +kernel
theorem dX5_hasWay_42 : decode mX5_hasWay.2.1 42 = .ok (.iconst 0, 1) := by decide +kernel
theorem dX5_hasWay_43 : decode mX5_hasWay.2.1 43 = .ok (.ireturn, 1) := by decide +kernel
theorem dX5_costTo_0 : decode mX5_costTo.2.1 0 = .ok (.aload_n 0, 1) := by decide +kernel
theorem dX5_costTo_1 : decode mX5_costTo.2.1 1 = .ok (.iload_n 1, 1) := by decide +kernel
theorem dX5_costTo_2 : decode mX5_costTo.2.1 2 = .ok (.iload_n 2, 1) := by decide +kernel
theorem dX5_costTo_3 : decode mX5_costTo.2.1 3 = .ok (.invokevirtual 82, 3) := by decide +kernel
theorem dX5_costTo_6 : decode mX5_costTo.2.1 6 = .ok (.ifCond .eq 21, 3) := by decide +kernel
theorem dX5_costTo_9 : decode mX5_costTo.2.1 9 = .ok (.aload_n 0, 1) := by decide +kernel
theorem dX5_costTo_10 : decode mX5_costTo.2.1 10 = .ok (.getfield 9, 3) := by decide +kernel
theorem dX5_costTo_13 : decode mX5_costTo.2.1 13 = .ok (.iload_n 1, 1) := by decide +kernel
theorem dX5_costTo_14 : decode mX5_costTo.2.1 14 = .ok (.bipush 64, 2) := by decide +kernel
theorem dX5_costTo_16 : decode mX5_costTo.2.1 16 = .ok (.imul, 1) := by decide +kernel
theorem dX5_costTo_17 : decode mX5_costTo.2.1 17 = .ok (.iload_n 2, 1) := by decide +kernel
theorem dX5_costTo_18 : decode mX5_costTo.2.1 18 = .ok (.iadd, 1) := by decide +kernel
theorem dX5_costTo_19 : decode mX5_costTo.2.1 19 = .ok (.iaload, 1) := by decide +kernel
theorem dX5_costTo_20 : decode mX5_costTo.2.1 20 = .ok (.sipush 128, 3) := by decide +kernel
theorem dX5_costTo_23 : decode mX5_costTo.2.1 23 = .ok (.idiv, 1) := by decide +kernel
theorem dX5_costTo_24 : decode mX5_costTo.2.1 24 = .ok (.goto 4, 3) := by decide +kernel
theorem dX5_costTo_27 : decode mX5_costTo.2.1 27 = .ok (.iconst (-1), 1) := by decide +kernel
theorem dX5_costTo_28 : decode mX5_costTo.2.1 28 = .ok (.ireturn, 1) := by decide +kernel
theorem dX5_stepsTo_0 : decode mX5_stepsTo.2.1 0 = .ok (.aload_n 0, 1) := by decide +kernel
theorem dX5_stepsTo_1 : decode mX5_stepsTo.2.1 1 = .ok (.iload_n 1, 1) := by decide +kernel
theorem dX5_stepsTo_2 : decode mX5_stepsTo.2.1 2 = .ok (.iload_n 2, 1) := by decide +kernel
theorem dX5_stepsTo_3 : decode mX5_stepsTo.2.1 3 = .ok (.invokevirtual 82, 3) := by decide +kernel
theorem dX5_stepsTo_6 : decode mX5_stepsTo.2.1 6 = .ok (.ifCond .eq 21, 3) := by decide +kernel
theorem dX5_stepsTo_9 : decode mX5_stepsTo.2.1 9 = .ok (.aload_n 0, 1) := by decide +kernel
theorem dX5_stepsTo_10 : decode mX5_stepsTo.2.1 10 = .ok (.getfield 9, 3) := by decide +kernel
theorem dX5_stepsTo_13 : decode mX5_stepsTo.2.1 13 = .ok (.iload_n 1, 1) := by decide +kernel
theorem dX5_stepsTo_14 : decode mX5_stepsTo.2.1 14 = .ok (.bipush 64, 2) := by decide +kernel
theorem dX5_stepsTo_16 : decode mX5_stepsTo.2.1 16 = .ok (.imul, 1) := by decide +kernel
theorem dX5_stepsTo_17 : decode mX5_stepsTo.2.1 17 = .ok (.iload_n 2, 1) := by decide +kernel
theorem dX5_stepsTo_18 : decode mX5_stepsTo.2.1 18 = .ok (.iadd, 1) := by decide +kernel
theorem dX5_stepsTo_19 : decode mX5_stepsTo.2.1 19 = .ok (.iaload, 1) := by decide +kernel
theorem dX5_stepsTo_20 : decode mX5_stepsTo.2.1 20 = .ok (.sipush 128, 3) := by decide +kernel
theorem dX5_stepsTo_23 : decode mX5_stepsTo.2.1 23 = .ok (.irem, 1) := by decide +kernel
theorem dX5_stepsTo_24 : decode mX5_stepsTo.2.1 24 = .ok (.goto 4, 3) := by decide +kernel
theorem dX5_stepsTo_27 : decode mX5_stepsTo.2.1 27 = .ok (.iconst (-1), 1) := by decide +kernel
theorem dX5_stepsTo_28 : decode mX5_stepsTo.2.1 28 = .ok (.ireturn, 1) := by decide +kernel
theorem dX5_firstTo_0 : decode mX5_firstTo.2.1 0 = .ok (.aload_n 0, 1) := by decide +kernel
theorem dX5_firstTo_1 : decode mX5_firstTo.2.1 1 = .ok (.iload_n 1, 1) := by decide +kernel
theorem dX5_firstTo_2 : decode mX5_firstTo.2.1 2 = .ok (.iload_n 2, 1) := by decide +kernel
theorem dX5_firstTo_3 : decode mX5_firstTo.2.1 3 = .ok (.invokevirtual 82, 3) := by decide +kernel
theorem dX5_firstTo_6 : decode mX5_firstTo.2.1 6 = .ok (.ifCond .eq 17, 3) := by decide +kernel
theorem dX5_firstTo_9 : decode mX5_firstTo.2.1 9 = .ok (.aload_n 0, 1) := by decide +kernel
theorem dX5_firstTo_10 : decode mX5_firstTo.2.1 10 = .ok (.getfield 15, 3) := by decide +kernel
theorem dX5_firstTo_13 : decode mX5_firstTo.2.1 13 = .ok (.iload_n 1, 1) := by decide +kernel
theorem dX5_firstTo_14 : decode mX5_firstTo.2.1 14 = .ok (.bipush 64, 2) := by decide +kernel
theorem dX5_firstTo_16 : decode mX5_firstTo.2.1 16 = .ok (.imul, 1) := by decide +kernel
theorem dX5_firstTo_17 : decode mX5_firstTo.2.1 17 = .ok (.iload_n 2, 1) := by decide +kernel
theorem dX5_firstTo_18 : decode mX5_firstTo.2.1 18 = .ok (.iadd, 1) := by decide +kernel
theorem dX5_firstTo_19 : decode mX5_firstTo.2.1 19 = .ok (.iaload, 1) := by decide +kernel
theorem dX5_firstTo_20 : decode mX5_firstTo.2.1 20 = .ok (.goto 4, 3) := by decide +kernel
theorem dX5_firstTo_23 : decode mX5_firstTo.2.1 23 = .ok (.iconst (-1), 1) := by decide +kernel
theorem dX5_firstTo_24 : decode mX5_firstTo.2.1 24 = .ok (.ireturn, 1) := by decide +kernel
theorem dX5_isNearer_0 : decode mX5_isNearer.2.1 0 = .ok (.aload_n 0, 1) := by decide +kernel
theorem dX5_isNearer_1 : decode mX5_isNearer.2.1 1 = .ok (.getfield 9, 3) := by decide +kernel
theorem dX5_isNearer_4 : decode mX5_isNearer.2.1 4 = .ok (.iload_n 1, 1) := by decide +kernel
theorem dX5_isNearer_5 : decode mX5_isNearer.2.1 5 = .ok (.iload_n 2, 1) := by decide +kernel
theorem dX5_isNearer_6 : decode mX5_isNearer.2.1 6 = .ok (.iadd, 1) := by decide +kernel
theorem dX5_isNearer_7 : decode mX5_isNearer.2.1 7 = .ok (.iaload, 1) := by decide +kernel
theorem dX5_isNearer_8 : decode mX5_isNearer.2.1 8 = .ok (.aload_n 0, 1) := by decide +kernel
theorem dX5_isNearer_9 : decode mX5_isNearer.2.1 9 = .ok (.getfield 9, 3) := by decide +kernel
theorem dX5_isNearer_12 : decode mX5_isNearer.2.1 12 = .ok (.iload_n 1, 1) := by decide +kernel
theorem dX5_isNearer_13 : decode mX5_isNearer.2.1 13 = .ok (.iload_n 3, 1) := by decide +kernel
theorem dX5_isNearer_14 : decode mX5_isNearer.2.1 14 = .ok (.iadd, 1) := by decide +kernel
theorem dX5_isNearer_15 : decode mX5_isNearer.2.1 15 = .ok (.iaload, 1) := by decide +kernel
theorem dX5_isNearer_16 : decode mX5_isNearer.2.1 16 = .ok (.if_icmp .eq 28, 3) := by decide +kernel
theorem dX5_isNearer_19 : decode mX5_isNearer.2.1 19 = .ok (.aload_n 0, 1) := by decide +kernel
theorem dX5_isNearer_20 : decode mX5_isNearer.2.1 20 = .ok (.getfield 9, 3) := by decide +kernel
theorem dX5_isNearer_23 : decode mX5_isNearer.2.1 23 = .ok (.iload_n 1, 1) := by decide +kernel
theorem dX5_isNearer_24 : decode mX5_isNearer.2.1 24 = .ok (.iload_n 2, 1) := by decide +kernel
theorem dX5_isNearer_25 : decode mX5_isNearer.2.1 25 = .ok (.iadd, 1) := by decide +kernel
theorem dX5_isNearer_26 : decode mX5_isNearer.2.1 26 = .ok (.iaload, 1) := by decide +kernel
theorem dX5_isNearer_27 : decode mX5_isNearer.2.1 27 = .ok (.aload_n 0, 1) := by decide +kernel
theorem dX5_isNearer_28 : decode mX5_isNearer.2.1 28 = .ok (.getfield 9, 3) := by decide +kernel
theorem dX5_isNearer_31 : decode mX5_isNearer.2.1 31 = .ok (.iload_n 1, 1) := by decide +kernel
theorem dX5_isNearer_32 : decode mX5_isNearer.2.1 32 = .ok (.iload_n 3, 1) := by decide +kernel
theorem dX5_isNearer_33 : decode mX5_isNearer.2.1 33 = .ok (.iadd, 1) := by decide +kernel
theorem dX5_isNearer_34 : decode mX5_isNearer.2.1 34 = .ok (.iaload, 1) := by decide +kernel
theorem dX5_isNearer_35 : decode mX5_isNearer.2.1 35 = .ok (.if_icmp .ge 7, 3) := by decide +kernel
theorem dX5_isNearer_38 : decode mX5_isNearer.2.1 38 = .ok (.iconst 1, 1) := by decide +kernel
theorem dX5_isNearer_39 : decode mX5_isNearer.2.1 39 = .ok (.goto 4, 3) := by decide +kernel
theorem dX5_isNearer_42 : decode mX5_isNearer.2.1 42 = .ok (.iconst 0, 1) := by decide +kernel
theorem dX5_isNearer_43 : decode mX5_isNearer.2.1 43 = .ok (.ireturn, 1) := by decide +kernel
theorem dX5_isNearer_44 : decode mX5_isNearer.2.1 44 = .ok (.aload_n 0, 1) := by decide +kernel
theorem dX5_isNearer_45 : decode mX5_isNearer.2.1 45 = .ok (.getfield 15, 3) := by decide +kernel
theorem dX5_isNearer_48 : decode mX5_isNearer.2.1 48 = .ok (.iload_n 1, 1) := by decide +kernel
theorem dX5_isNearer_49 : decode mX5_isNearer.2.1 49 = .ok (.iload_n 2, 1) := by decide +kernel
theorem dX5_isNearer_50 : decode mX5_isNearer.2.1 50 = .ok (.iadd, 1) := by decide +kernel
theorem dX5_isNearer_51 : decode mX5_isNearer.2.1 51 = .ok (.iaload, 1) := by decide +kernel
theorem dX5_isNearer_52 : decode mX5_isNearer.2.1 52 = .ok (.aload_n 0, 1) := by decide +kernel
theorem dX5_isNearer_53 : decode mX5_isNearer.2.1 53 = .ok (.getfield 15, 3) := by decide +kernel
theorem dX5_isNearer_56 : decode mX5_isNearer.2.1 56 = .ok (.iload_n 1, 1) := by decide +kernel
theorem dX5_isNearer_57 : decode mX5_isNearer.2.1 57 = .ok (.iload_n 3, 1) := by decide +kernel
theorem dX5_isNearer_58 : decode mX5_isNearer.2.1 58 = .ok (.iadd, 1) := by decide +kernel
theorem dX5_isNearer_59 : decode mX5_isNearer.2.1 59 = .ok (.iaload, 1) := by decide +kernel
theorem dX5_isNearer_60 : decode mX5_isNearer.2.1 60 = .ok (.if_icmp .ge 7, 3) := by decide +kernel
theorem dX5_isNearer_63 : decode mX5_isNearer.2.1 63 = .ok (.iconst 1, 1) := by decide +kernel
theorem dX5_isNearer_64 : decode mX5_isNearer.2.1 64 = .ok (.goto 4, 3) := by decide +kernel
theorem dX5_isNearer_67 : decode mX5_isNearer.2.1 67 = .ok (.iconst 0, 1) := by decide +kernel
theorem dX5_isNearer_68 : decode mX5_isNearer.2.1 68 = .ok (.ireturn, 1) := by decide +kernel
theorem dX5_goOnFrom_0 : decode mX5_goOnFrom.2.1 0 = .ok (.iconst 0, 1) := by decide +kernel
theorem dX5_goOnFrom_1 : decode mX5_goOnFrom.2.1 1 = .ok (.istore 4, 2) := by decide +kernel
theorem dX5_goOnFrom_3 : decode mX5_goOnFrom.2.1 3 = .ok (.iload 4, 2) := by decide +kernel
theorem dX5_goOnFrom_5 : decode mX5_goOnFrom.2.1 5 = .ok (.iconst 4, 1) := by decide +kernel
theorem dX5_goOnFrom_6 : decode mX5_goOnFrom.2.1 6 = .ok (.if_icmp .ge 193, 3) := by decide +kernel
theorem dX5_goOnFrom_9 : decode mX5_goOnFrom.2.1 9 = .ok (.iload_n 2, 1) := by decide +kernel
theorem dX5_goOnFrom_10 : decode mX5_goOnFrom.2.1 10 = .ok (.iload 4, 2) := by decide +kernel
theorem dX5_goOnFrom_12 : decode mX5_goOnFrom.2.1 12 = .ok (.invokestatic 74, 3) := by decide +kernel
theorem dX5_goOnFrom_15 : decode mX5_goOnFrom.2.1 15 = .ok (.istore 5, 2) := by decide +kernel
theorem dX5_goOnFrom_17 : decode mX5_goOnFrom.2.1 17 = .ok (.iload 5, 2) := by decide +kernel
theorem dX5_goOnFrom_19 : decode mX5_goOnFrom.2.1 19 = .ok (.ifCond .lt 174, 3) := by decide +kernel
theorem dX5_goOnFrom_22 : decode mX5_goOnFrom.2.1 22 = .ok (.aload_n 0, 1) := by decide +kernel
theorem dX5_goOnFrom_23 : decode mX5_goOnFrom.2.1 23 = .ok (.getfield 18, 3) := by decide +kernel
theorem dX5_goOnFrom_26 : decode mX5_goOnFrom.2.1 26 = .ok (.iload 5, 2) := by decide +kernel
theorem dX5_goOnFrom_28 : decode mX5_goOnFrom.2.1 28 = .ok (.iaload, 1) := by decide +kernel
theorem dX5_goOnFrom_29 : decode mX5_goOnFrom.2.1 29 = .ok (.ifCond .ne 6, 3) := by decide +kernel
theorem dX5_goOnFrom_32 : decode mX5_goOnFrom.2.1 32 = .ok (.goto 161, 3) := by decide +kernel
theorem dX5_goOnFrom_35 : decode mX5_goOnFrom.2.1 35 = .ok (.aload_n 0, 1) := by decide +kernel
theorem dX5_goOnFrom_36 : decode mX5_goOnFrom.2.1 36 = .ok (.getfield 9, 3) := by decide +kernel
theorem dX5_goOnFrom_39 : decode mX5_goOnFrom.2.1 39 = .ok (.iload_n 1, 1) := by decide +kernel
theorem dX5_goOnFrom_40 : decode mX5_goOnFrom.2.1 40 = .ok (.iload_n 2, 1) := by decide +kernel
theorem dX5_goOnFrom_41 : decode mX5_goOnFrom.2.1 41 = .ok (.iadd, 1) := by decide +kernel
theorem dX5_goOnFrom_42 : decode mX5_goOnFrom.2.1 42 = .ok (.iaload, 1) := by decide +kernel
theorem dX5_goOnFrom_43 : decode mX5_goOnFrom.2.1 43 = .ok (.aload_n 0, 1) := by decide +kernel
theorem dX5_goOnFrom_44 : decode mX5_goOnFrom.2.1 44 = .ok (.getfield 18, 3) := by decide +kernel
theorem dX5_goOnFrom_47 : decode mX5_goOnFrom.2.1 47 = .ok (.iload 5, 2) := by decide +kernel
theorem dX5_goOnFrom_49 : decode mX5_goOnFrom.2.1 49 = .ok (.iaload, 1) := by decide +kernel
theorem dX5_goOnFrom_50 : decode mX5_goOnFrom.2.1 50 = .ok (.iadd, 1) := by decide +kernel
theorem dX5_goOnFrom_51 : decode mX5_goOnFrom.2.1 51 = .ok (.istore 6, 2) := by decide +kernel
theorem dX5_goOnFrom_53 : decode mX5_goOnFrom.2.1 53 = .ok (.iload_n 2, 1) := by decide +kernel
theorem dX5_goOnFrom_54 : decode mX5_goOnFrom.2.1 54 = .ok (.iload_n 3, 1) := by decide +kernel
theorem dX5_goOnFrom_55 : decode mX5_goOnFrom.2.1 55 = .ok (.if_icmp .ne 8, 3) := by decide +kernel
theorem dX5_goOnFrom_58 : decode mX5_goOnFrom.2.1 58 = .ok (.iload 5, 2) := by decide +kernel
theorem dX5_goOnFrom_60 : decode mX5_goOnFrom.2.1 60 = .ok (.goto 11, 3) := by decide +kernel
theorem dX5_goOnFrom_63 : decode mX5_goOnFrom.2.1 63 = .ok (.aload_n 0, 1) := by decide +kernel
theorem dX5_goOnFrom_64 : decode mX5_goOnFrom.2.1 64 = .ok (.getfield 15, 3) := by decide +kernel
theorem dX5_goOnFrom_67 : decode mX5_goOnFrom.2.1 67 = .ok (.iload_n 1, 1) := by decide +kernel
theorem dX5_goOnFrom_68 : decode mX5_goOnFrom.2.1 68 = .ok (.iload_n 2, 1) := by decide +kernel
theorem dX5_goOnFrom_69 : decode mX5_goOnFrom.2.1 69 = .ok (.iadd, 1) := by decide +kernel
theorem dX5_goOnFrom_70 : decode mX5_goOnFrom.2.1 70 = .ok (.iaload, 1) := by decide +kernel
theorem dX5_goOnFrom_71 : decode mX5_goOnFrom.2.1 71 = .ok (.istore 7, 2) := by decide +kernel
theorem dX5_goOnFrom_73 : decode mX5_goOnFrom.2.1 73 = .ok (.iload 6, 2) := by decide +kernel
theorem dX5_goOnFrom_75 : decode mX5_goOnFrom.2.1 75 = .ok (.aload_n 0, 1) := by decide +kernel
theorem dX5_goOnFrom_76 : decode mX5_goOnFrom.2.1 76 = .ok (.getfield 9, 3) := by decide +kernel
theorem dX5_goOnFrom_79 : decode mX5_goOnFrom.2.1 79 = .ok (.iload_n 1, 1) := by decide +kernel
theorem dX5_goOnFrom_80 : decode mX5_goOnFrom.2.1 80 = .ok (.iload 5, 2) := by decide +kernel
theorem dX5_goOnFrom_82 : decode mX5_goOnFrom.2.1 82 = .ok (.iadd, 1) := by decide +kernel
theorem dX5_goOnFrom_83 : decode mX5_goOnFrom.2.1 83 = .ok (.iaload, 1) := by decide +kernel
theorem dX5_goOnFrom_84 : decode mX5_goOnFrom.2.1 84 = .ok (.if_icmp .ge 72, 3) := by decide +kernel
theorem dX5_goOnFrom_87 : decode mX5_goOnFrom.2.1 87 = .ok (.aload_n 0, 1) := by decide +kernel
theorem dX5_goOnFrom_88 : decode mX5_goOnFrom.2.1 88 = .ok (.getfield 9, 3) := by decide +kernel
theorem dX5_goOnFrom_91 : decode mX5_goOnFrom.2.1 91 = .ok (.iload_n 1, 1) := by decide +kernel
theorem dX5_goOnFrom_92 : decode mX5_goOnFrom.2.1 92 = .ok (.iload 5, 2) := by decide +kernel
theorem dX5_goOnFrom_94 : decode mX5_goOnFrom.2.1 94 = .ok (.iadd, 1) := by decide +kernel
theorem dX5_goOnFrom_95 : decode mX5_goOnFrom.2.1 95 = .ok (.iaload, 1) := by decide +kernel
theorem dX5_goOnFrom_96 : decode mX5_goOnFrom.2.1 96 = .ok (.ldc 36, 2) := by decide +kernel
theorem dX5_goOnFrom_98 : decode mX5_goOnFrom.2.1 98 = .ok (.if_icmp .ne 33, 3) := by decide +kernel
theorem dX5_goOnFrom_101 : decode mX5_goOnFrom.2.1 101 = .ok (.aload_n 0, 1) := by decide +kernel
theorem dX5_goOnFrom_102 : decode mX5_goOnFrom.2.1 102 = .ok (.getfield 62, 3) := by decide +kernel
theorem dX5_goOnFrom_105 : decode mX5_goOnFrom.2.1 105 = .ok (.bipush 64, 2) := by decide +kernel
theorem dX5_goOnFrom_107 : decode mX5_goOnFrom.2.1 107 = .ok (.if_icmp .ge 24, 3) := by decide +kernel
theorem dX5_goOnFrom_110 : decode mX5_goOnFrom.2.1 110 = .ok (.aload_n 0, 1) := by decide +kernel
theorem dX5_goOnFrom_111 : decode mX5_goOnFrom.2.1 111 = .ok (.getfield 21, 3) := by decide +kernel
theorem dX5_goOnFrom_114 : decode mX5_goOnFrom.2.1 114 = .ok (.aload_n 0, 1) := by decide +kernel
theorem dX5_goOnFrom_115 : decode mX5_goOnFrom.2.1 115 = .ok (.getfield 62, 3) := by decide +kernel
theorem dX5_goOnFrom_118 : decode mX5_goOnFrom.2.1 118 = .ok (.iload 5, 2) := by decide +kernel
theorem dX5_goOnFrom_120 : decode mX5_goOnFrom.2.1 120 = .ok (.iastore, 1) := by decide +kernel
theorem dX5_goOnFrom_121 : decode mX5_goOnFrom.2.1 121 = .ok (.aload_n 0, 1) := by decide +kernel
theorem dX5_goOnFrom_122 : decode mX5_goOnFrom.2.1 122 = .ok (.dup, 1) := by decide +kernel
theorem dX5_goOnFrom_123 : decode mX5_goOnFrom.2.1 123 = .ok (.getfield 62, 3) := by decide +kernel
theorem dX5_goOnFrom_126 : decode mX5_goOnFrom.2.1 126 = .ok (.iconst 1, 1) := by decide +kernel
theorem dX5_goOnFrom_127 : decode mX5_goOnFrom.2.1 127 = .ok (.iadd, 1) := by decide +kernel
theorem dX5_goOnFrom_128 : decode mX5_goOnFrom.2.1 128 = .ok (.putfield 62, 3) := by decide +kernel
theorem dX5_goOnFrom_131 : decode mX5_goOnFrom.2.1 131 = .ok (.aload_n 0, 1) := by decide +kernel
theorem dX5_goOnFrom_132 : decode mX5_goOnFrom.2.1 132 = .ok (.getfield 9, 3) := by decide +kernel
theorem dX5_goOnFrom_135 : decode mX5_goOnFrom.2.1 135 = .ok (.iload_n 1, 1) := by decide +kernel
theorem dX5_goOnFrom_136 : decode mX5_goOnFrom.2.1 136 = .ok (.iload 5, 2) := by decide +kernel
theorem dX5_goOnFrom_138 : decode mX5_goOnFrom.2.1 138 = .ok (.iadd, 1) := by decide +kernel
theorem dX5_goOnFrom_139 : decode mX5_goOnFrom.2.1 139 = .ok (.iload 6, 2) := by decide +kernel
theorem dX5_goOnFrom_141 : decode mX5_goOnFrom.2.1 141 = .ok (.iastore, 1) := by decide +kernel
theorem dX5_goOnFrom_142 : decode mX5_goOnFrom.2.1 142 = .ok (.aload_n 0, 1) := by decide +kernel
theorem dX5_goOnFrom_143 : decode mX5_goOnFrom.2.1 143 = .ok (.getfield 15, 3) := by decide +kernel
theorem dX5_goOnFrom_146 : decode mX5_goOnFrom.2.1 146 = .ok (.iload_n 1, 1) := by decide +kernel
theorem dX5_goOnFrom_147 : decode mX5_goOnFrom.2.1 147 = .ok (.iload 5, 2) := by decide +kernel
theorem dX5_goOnFrom_149 : decode mX5_goOnFrom.2.1 149 = .ok (.iadd, 1) := by decide +kernel
theorem dX5_goOnFrom_150 : decode mX5_goOnFrom.2.1 150 = .ok (.iload 7, 2) := by decide +kernel
theorem dX5_goOnFrom_152 : decode mX5_goOnFrom.2.1 152 = .ok (.iastore, 1) := by decide +kernel
theorem dX5_goOnFrom_153 : decode mX5_goOnFrom.2.1 153 = .ok (.goto 40, 3) := by decide +kernel
theorem dX5_goOnFrom_156 : decode mX5_goOnFrom.2.1 156 = .ok (.iload 6, 2) := by decide +kernel
theorem dX5_goOnFrom_158 : decode mX5_goOnFrom.2.1 158 = .ok (.aload_n 0, 1) := by decide +kernel
theorem dX5_goOnFrom_159 : decode mX5_goOnFrom.2.1 159 = .ok (.getfield 9, 3) := by decide +kernel
theorem dX5_goOnFrom_162 : decode mX5_goOnFrom.2.1 162 = .ok (.iload_n 1, 1) := by decide +kernel
theorem dX5_goOnFrom_163 : decode mX5_goOnFrom.2.1 163 = .ok (.iload 5, 2) := by decide +kernel
theorem dX5_goOnFrom_165 : decode mX5_goOnFrom.2.1 165 = .ok (.iadd, 1) := by decide +kernel
theorem dX5_goOnFrom_166 : decode mX5_goOnFrom.2.1 166 = .ok (.iaload, 1) := by decide +kernel
theorem dX5_goOnFrom_167 : decode mX5_goOnFrom.2.1 167 = .ok (.if_icmp .ne 26, 3) := by decide +kernel
theorem dX5_goOnFrom_170 : decode mX5_goOnFrom.2.1 170 = .ok (.aload_n 0, 1) := by decide +kernel
theorem dX5_goOnFrom_171 : decode mX5_goOnFrom.2.1 171 = .ok (.getfield 15, 3) := by decide +kernel
theorem dX5_goOnFrom_174 : decode mX5_goOnFrom.2.1 174 = .ok (.iload_n 1, 1) := by decide +kernel
theorem dX5_goOnFrom_175 : decode mX5_goOnFrom.2.1 175 = .ok (.iload 5, 2) := by decide +kernel
theorem dX5_goOnFrom_177 : decode mX5_goOnFrom.2.1 177 = .ok (.iadd, 1) := by decide +kernel
theorem dX5_goOnFrom_178 : decode mX5_goOnFrom.2.1 178 = .ok (.aload_n 0, 1) := by decide +kernel
theorem dX5_goOnFrom_179 : decode mX5_goOnFrom.2.1 179 = .ok (.getfield 15, 3) := by decide +kernel
theorem dX5_goOnFrom_182 : decode mX5_goOnFrom.2.1 182 = .ok (.iload_n 1, 1) := by decide +kernel
theorem dX5_goOnFrom_183 : decode mX5_goOnFrom.2.1 183 = .ok (.iload 5, 2) := by decide +kernel
theorem dX5_goOnFrom_185 : decode mX5_goOnFrom.2.1 185 = .ok (.iadd, 1) := by decide +kernel
theorem dX5_goOnFrom_186 : decode mX5_goOnFrom.2.1 186 = .ok (.iaload, 1) := by decide +kernel
theorem dX5_goOnFrom_187 : decode mX5_goOnFrom.2.1 187 = .ok (.iload 7, 2) := by decide +kernel
theorem dX5_goOnFrom_189 : decode mX5_goOnFrom.2.1 189 = .ok (.invokestatic 77, 3) := by decide +kernel
theorem dX5_goOnFrom_192 : decode mX5_goOnFrom.2.1 192 = .ok (.iastore, 1) := by decide +kernel
theorem dX5_goOnFrom_193 : decode mX5_goOnFrom.2.1 193 = .ok (.iinc 4 1, 3) := by decide +kernel
theorem dX5_goOnFrom_196 : decode mX5_goOnFrom.2.1 196 = .ok (.goto (-193), 3) := by decide +kernel
theorem dX5_goOnFrom_199 : decode mX5_goOnFrom.2.1 199 = .ok (.return_, 1) := by decide +kernel
theorem dX5_nearestBeside_0 : decode mX5_nearestBeside.2.1 0 = .ok (.iconst (-1), 1) := by decide +kernel
theorem dX5_nearestBeside_1 : decode mX5_nearestBeside.2.1 1 = .ok (.istore_n 3, 1) := by decide +kernel
theorem dX5_nearestBeside_2 : decode mX5_nearestBeside.2.1 2 = .ok (.iconst 0, 1) := by decide +kernel
theorem dX5_nearestBeside_3 : decode mX5_nearestBeside.2.1 3 = .ok (.istore 4, 2) := by decide +kernel
theorem dX5_nearestBeside_5 : decode mX5_nearestBeside.2.1 5 = .ok (.iload 4, 2) := by decide +kernel
theorem dX5_nearestBeside_7 : decode mX5_nearestBeside.2.1 7 = .ok (.iconst 4, 1) := by decide +kernel
theorem dX5_nearestBeside_8 : decode mX5_nearestBeside.2.1 8 = .ok (.if_icmp .ge 48, 3) := by decide +kernel
theorem dX5_nearestBeside_11 : decode mX5_nearestBeside.2.1 11 = .ok (.iload_n 2, 1) := by decide +kernel
theorem dX5_nearestBeside_12 : decode mX5_nearestBeside.2.1 12 = .ok (.iload 4, 2) := by decide +kernel
theorem dX5_nearestBeside_14 : decode mX5_nearestBeside.2.1 14 = .ok (.invokestatic 74, 3) := by decide +kernel
theorem dX5_nearestBeside_17 : decode mX5_nearestBeside.2.1 17 = .ok (.istore 5, 2) := by decide +kernel
theorem dX5_nearestBeside_19 : decode mX5_nearestBeside.2.1 19 = .ok (.aload_n 0, 1) := by decide +kernel
theorem dX5_nearestBeside_20 : decode mX5_nearestBeside.2.1 20 = .ok (.iload_n 1, 1) := by decide +kernel
theorem dX5_nearestBeside_21 : decode mX5_nearestBeside.2.1 21 = .ok (.iload 5, 2) := by decide +kernel
theorem dX5_nearestBeside_23 : decode mX5_nearestBeside.2.1 23 = .ok (.invokevirtual 82, 3) := by decide +kernel
theorem dX5_nearestBeside_26 : decode mX5_nearestBeside.2.1 26 = .ok (.ifCond .eq 24, 3) := by decide +kernel
theorem dX5_nearestBeside_29 : decode mX5_nearestBeside.2.1 29 = .ok (.iload_n 3, 1) := by decide +kernel
theorem dX5_nearestBeside_30 : decode mX5_nearestBeside.2.1 30 = .ok (.ifCond .lt 17, 3) := by decide +kernel
theorem dX5_nearestBeside_33 : decode mX5_nearestBeside.2.1 33 = .ok (.aload_n 0, 1) := by decide +kernel
theorem dX5_nearestBeside_34 : decode mX5_nearestBeside.2.1 34 = .ok (.iload_n 1, 1) := by decide +kernel
theorem dX5_nearestBeside_35 : decode mX5_nearestBeside.2.1 35 = .ok (.bipush 64, 2) := by decide +kernel
theorem dX5_nearestBeside_37 : decode mX5_nearestBeside.2.1 37 = .ok (.imul, 1) := by decide +kernel
theorem dX5_nearestBeside_38 : decode mX5_nearestBeside.2.1 38 = .ok (.iload 5, 2) := by decide +kernel
theorem dX5_nearestBeside_40 : decode mX5_nearestBeside.2.1 40 = .ok (.iload_n 3, 1) := by decide +kernel
theorem dX5_nearestBeside_41 : decode mX5_nearestBeside.2.1 41 = .ok (.invokevirtual 86, 3) := by decide +kernel
theorem dX5_nearestBeside_44 : decode mX5_nearestBeside.2.1 44 = .ok (.ifCond .eq 6, 3) := by decide +kernel
theorem dX5_nearestBeside_47 : decode mX5_nearestBeside.2.1 47 = .ok (.iload 5, 2) := by decide +kernel
theorem dX5_nearestBeside_49 : decode mX5_nearestBeside.2.1 49 = .ok (.istore_n 3, 1) := by decide +kernel
theorem dX5_nearestBeside_50 : decode mX5_nearestBeside.2.1 50 = .ok (.iinc 4 1, 3) := by decide +kernel
theorem dX5_nearestBeside_53 : decode mX5_nearestBeside.2.1 53 = .ok (.goto (-48), 3) := by decide +kernel
theorem dX5_nearestBeside_56 : decode mX5_nearestBeside.2.1 56 = .ok (.iload_n 3, 1) := by decide +kernel
theorem dX5_nearestBeside_57 : decode mX5_nearestBeside.2.1 57 = .ok (.ireturn, 1) := by decide +kernel
theorem dX5_search_0 : decode mX5_search.2.1 0 = .ok (.iload_n 1, 1) := by decide +kernel
theorem dX5_search_1 : decode mX5_search.2.1 1 = .ok (.iconst 0, 1) := by decide +kernel
theorem dX5_search_2 : decode mX5_search.2.1 2 = .ok (.bipush 7, 2) := by decide +kernel
theorem dX5_search_4 : decode mX5_search.2.1 4 = .ok (.invokestatic 24, 3) := by decide +kernel
theorem dX5_search_7 : decode mX5_search.2.1 7 = .ok (.ifCond .ne 4, 3) := by decide +kernel
theorem dX5_search_10 : decode mX5_search.2.1 10 = .ok (.return_, 1) := by decide +kernel
theorem dX5_search_11 : decode mX5_search.2.1 11 = .ok (.iload_n 1, 1) := by decide +kernel
theorem dX5_search_12 : decode mX5_search.2.1 12 = .ok (.bipush 64, 2) := by decide +kernel
theorem dX5_search_14 : decode mX5_search.2.1 14 = .ok (.imul, 1) := by decide +kernel
theorem dX5_search_15 : decode mX5_search.2.1 15 = .ok (.istore 6, 2) := by decide +kernel
theorem dX5_search_17 : decode mX5_search.2.1 17 = .ok (.aload_n 2, 1) := by decide +kernel
theorem dX5_search_18 : decode mX5_search.2.1 18 = .ok (.iload_n 1, 1) := by decide +kernel
theorem dX5_search_19 : decode mX5_search.2.1 19 = .ok (.iconst 1, 1) := by decide +kernel
theorem dX5_search_20 : decode mX5_search.2.1 20 = .ok (.invokevirtual 30, 3) := by decide +kernel
theorem dX5_search_23 : decode mX5_search.2.1 23 = .ok (.istore 7, 2) := by decide +kernel
theorem dX5_search_25 : decode mX5_search.2.1 25 = .ok (.iconst 0, 1) := by decide +kernel
theorem dX5_search_26 : decode mX5_search.2.1 26 = .ok (.istore 8, 2) := by decide +kernel
theorem dX5_search_28 : decode mX5_search.2.1 28 = .ok (.iload 8, 2) := by decide +kernel
theorem dX5_search_30 : decode mX5_search.2.1 30 = .ok (.bipush 64, 2) := by decide +kernel
theorem dX5_search_32 : decode mX5_search.2.1 32 = .ok (.if_icmp .ge 96, 3) := by decide +kernel
theorem dX5_search_35 : decode mX5_search.2.1 35 = .ok (.aload_n 0, 1) := by decide +kernel
theorem dX5_search_36 : decode mX5_search.2.1 36 = .ok (.getfield 9, 3) := by decide +kernel
theorem dX5_search_39 : decode mX5_search.2.1 39 = .ok (.iload 6, 2) := by decide +kernel
theorem dX5_search_41 : decode mX5_search.2.1 41 = .ok (.iload 8, 2) := by decide +kernel
theorem dX5_search_43 : decode mX5_search.2.1 43 = .ok (.iadd, 1) := by decide +kernel
theorem dX5_search_44 : decode mX5_search.2.1 44 = .ok (.ldc 36, 2) := by decide +kernel
theorem dX5_search_46 : decode mX5_search.2.1 46 = .ok (.iastore, 1) := by decide +kernel
theorem dX5_search_47 : decode mX5_search.2.1 47 = .ok (.aload 4, 2) := by decide +kernel
theorem dX5_search_49 : decode mX5_search.2.1 49 = .ok (.iload 7, 2) := by decide +kernel
theorem dX5_search_51 : decode mX5_search.2.1 51 = .ok (.iload 8, 2) := by decide +kernel
theorem dX5_search_53 : decode mX5_search.2.1 53 = .ok (.invokevirtual 37, 3) := by decide +kernel
theorem dX5_search_56 : decode mX5_search.2.1 56 = .ok (.istore 9, 2) := by decide +kernel
theorem dX5_search_58 : decode mX5_search.2.1 58 = .ok (.aload_n 3, 1) := by decide +kernel
theorem dX5_search_59 : decode mX5_search.2.1 59 = .ok (.getfield 42, 3) := by decide +kernel
theorem dX5_search_62 : decode mX5_search.2.1 62 = .ok (.iload_n 1, 1) := by decide +kernel
theorem dX5_search_63 : decode mX5_search.2.1 63 = .ok (.laload, 1) := by decide +kernel
theorem dX5_search_64 : decode mX5_search.2.1 64 = .ok (.iload 8, 2) := by decide +kernel
theorem dX5_search_66 : decode mX5_search.2.1 66 = .ok (.invokestatic 48, 3) := by decide +kernel
theorem dX5_search_69 : decode mX5_search.2.1 69 = .ok (.land, 1) := by decide +kernel
theorem dX5_search_70 : decode mX5_search.2.1 70 = .ok (.lconst 0, 1) := by decide +kernel
theorem dX5_search_71 : decode mX5_search.2.1 71 = .ok (.lcmp, 1) := by decide +kernel
theorem dX5_search_72 : decode mX5_search.2.1 72 = .ok (.ifCond .ne 19, 3) := by decide +kernel
theorem dX5_search_75 : decode mX5_search.2.1 75 = .ok (.aload 4, 2) := by decide +kernel
theorem dX5_search_77 : decode mX5_search.2.1 77 = .ok (.getfield 52, 3) := by decide +kernel
theorem dX5_search_80 : decode mX5_search.2.1 80 = .ok (.iload 8, 2) := by decide +kernel
theorem dX5_search_82 : decode mX5_search.2.1 82 = .ok (.iaload, 1) := by decide +kernel
theorem dX5_search_83 : decode mX5_search.2.1 83 = .ok (.iload 9, 2) := by decide +kernel
theorem dX5_search_85 : decode mX5_search.2.1 85 = .ok (.iadd, 1) := by decide +kernel
theorem dX5_search_86 : decode mX5_search.2.1 86 = .ok (.iload 5, 2) := by decide +kernel
theorem dX5_search_88 : decode mX5_search.2.1 88 = .ok (.if_icmp .le 7, 3) := by decide +kernel
theorem dX5_search_91 : decode mX5_search.2.1 91 = .ok (.iconst 1, 1) := by decide +kernel
theorem dX5_search_92 : decode mX5_search.2.1 92 = .ok (.goto 4, 3) := by decide +kernel
theorem dX5_search_95 : decode mX5_search.2.1 95 = .ok (.iconst 0, 1) := by decide +kernel
theorem dX5_search_96 : decode mX5_search.2.1 96 = .ok (.istore 10, 2) := by decide +kernel
theorem dX5_search_98 : decode mX5_search.2.1 98 = .ok (.aload_n 0, 1) := by decide +kernel
theorem dX5_search_99 : decode mX5_search.2.1 99 = .ok (.getfield 18, 3) := by decide +kernel
theorem dX5_search_102 : decode mX5_search.2.1 102 = .ok (.iload 8, 2) := by decide +kernel
theorem dX5_search_104 : decode mX5_search.2.1 104 = .ok (.iload 10, 2) := by decide +kernel
theorem dX5_search_106 : decode mX5_search.2.1 106 = .ok (.ifCond .eq 7, 3) := by decide +kernel
theorem dX5_search_109 : decode mX5_search.2.1 109 = .ok (.iconst 0, 1) := by decide +kernel
theorem dX5_search_110 : decode mX5_search.2.1 110 = .ok (.goto 11, 3) := by decide +kernel
theorem dX5_search_113 : decode mX5_search.2.1 113 = .ok (.iload 9, 2) := by decide +kernel
theorem dX5_search_115 : decode mX5_search.2.1 115 = .ok (.sipush 128, 3) := by decide +kernel
theorem dX5_search_118 : decode mX5_search.2.1 118 = .ok (.imul, 1) := by decide +kernel
theorem dX5_search_119 : decode mX5_search.2.1 119 = .ok (.iconst 1, 1) := by decide +kernel
theorem dX5_search_120 : decode mX5_search.2.1 120 = .ok (.iadd, 1) := by decide +kernel
theorem dX5_search_121 : decode mX5_search.2.1 121 = .ok (.iastore, 1) := by decide +kernel
theorem dX5_search_122 : decode mX5_search.2.1 122 = .ok (.iinc 8 1, 3) := by decide +kernel
theorem dX5_search_125 : decode mX5_search.2.1 125 = .ok (.goto (-97), 3) := by decide +kernel
theorem dX5_search_128 : decode mX5_search.2.1 128 = .ok (.aload_n 3, 1) := by decide +kernel
theorem dX5_search_129 : decode mX5_search.2.1 129 = .ok (.getfield 55, 3) := by decide +kernel
theorem dX5_search_132 : decode mX5_search.2.1 132 = .ok (.iload_n 1, 1) := by decide +kernel
theorem dX5_search_133 : decode mX5_search.2.1 133 = .ok (.iaload, 1) := by decide +kernel
theorem dX5_search_134 : decode mX5_search.2.1 134 = .ok (.istore 8, 2) := by decide +kernel
theorem dX5_search_136 : decode mX5_search.2.1 136 = .ok (.iload 8, 2) := by decide +kernel
theorem dX5_search_138 : decode mX5_search.2.1 138 = .ok (.invokestatic 58, 3) := by decide +kernel
theorem dX5_search_141 : decode mX5_search.2.1 141 = .ok (.ifCond .ne 4, 3) := by decide +kernel
theorem dX5_search_144 : decode mX5_search.2.1 144 = .ok (.return_, 1) := by decide +kernel
theorem dX5_search_145 : decode mX5_search.2.1 145 = .ok (.aload_n 0, 1) := by decide +kernel
theorem dX5_search_146 : decode mX5_search.2.1 146 = .ok (.getfield 9, 3) := by decide +kernel
theorem dX5_search_149 : decode mX5_search.2.1 149 = .ok (.iload 6, 2) := by decide +kernel
theorem dX5_search_151 : decode mX5_search.2.1 151 = .ok (.iload 8, 2) := by decide +kernel
theorem dX5_search_153 : decode mX5_search.2.1 153 = .ok (.iadd, 1) := by decide +kernel
theorem dX5_search_154 : decode mX5_search.2.1 154 = .ok (.iconst 0, 1) := by decide +kernel
theorem dX5_search_155 : decode mX5_search.2.1 155 = .ok (.iastore, 1) := by decide +kernel
theorem dX5_search_156 : decode mX5_search.2.1 156 = .ok (.aload_n 0, 1) := by decide +kernel
theorem dX5_search_157 : decode mX5_search.2.1 157 = .ok (.getfield 15, 3) := by decide +kernel
theorem dX5_search_160 : decode mX5_search.2.1 160 = .ok (.iload 6, 2) := by decide +kernel
theorem dX5_search_162 : decode mX5_search.2.1 162 = .ok (.iload 8, 2) := by decide +kernel
theorem dX5_search_164 : decode mX5_search.2.1 164 = .ok (.iadd, 1) := by decide +kernel
theorem dX5_search_165 : decode mX5_search.2.1 165 = .ok (.iload 8, 2) := by decide +kernel
theorem dX5_search_167 : decode mX5_search.2.1 167 = .ok (.iastore, 1) := by decide +kernel
theorem dX5_search_168 : decode mX5_search.2.1 168 = .ok (.aload_n 0, 1) := by decide +kernel
theorem dX5_search_169 : decode mX5_search.2.1 169 = .ok (.getfield 21, 3) := by decide +kernel
theorem dX5_search_172 : decode mX5_search.2.1 172 = .ok (.iconst 0, 1) := by decide +kernel
theorem dX5_search_173 : decode mX5_search.2.1 173 = .ok (.iload 8, 2) := by decide +kernel
theorem dX5_search_175 : decode mX5_search.2.1 175 = .ok (.iastore, 1) := by decide +kernel
theorem dX5_search_176 : decode mX5_search.2.1 176 = .ok (.aload_n 0, 1) := by decide +kernel
theorem dX5_search_177 : decode mX5_search.2.1 177 = .ok (.iconst 1, 1) := by decide +kernel
theorem dX5_search_178 : decode mX5_search.2.1 178 = .ok (.putfield 62, 3) := by decide +kernel
theorem dX5_search_181 : decode mX5_search.2.1 181 = .ok (.iconst 0, 1) := by decide +kernel
theorem dX5_search_182 : decode mX5_search.2.1 182 = .ok (.istore 9, 2) := by decide +kernel
theorem dX5_search_184 : decode mX5_search.2.1 184 = .ok (.iload 9, 2) := by decide +kernel
theorem dX5_search_186 : decode mX5_search.2.1 186 = .ok (.bipush 64, 2) := by decide +kernel
theorem dX5_search_188 : decode mX5_search.2.1 188 = .ok (.if_icmp .ge 30, 3) := by decide +kernel
theorem dX5_search_191 : decode mX5_search.2.1 191 = .ok (.aload_n 0, 1) := by decide +kernel
theorem dX5_search_192 : decode mX5_search.2.1 192 = .ok (.getfield 62, 3) := by decide +kernel
theorem dX5_search_195 : decode mX5_search.2.1 195 = .ok (.ifCond .le 23, 3) := by decide +kernel
theorem dX5_search_198 : decode mX5_search.2.1 198 = .ok (.aload_n 0, 1) := by decide +kernel
theorem dX5_search_199 : decode mX5_search.2.1 199 = .ok (.iload 6, 2) := by decide +kernel
theorem dX5_search_201 : decode mX5_search.2.1 201 = .ok (.aload_n 0, 1) := by decide +kernel
theorem dX5_search_202 : decode mX5_search.2.1 202 = .ok (.iload 6, 2) := by decide +kernel
theorem dX5_search_204 : decode mX5_search.2.1 204 = .ok (.invokevirtual 66, 3) := by decide +kernel
theorem dX5_search_207 : decode mX5_search.2.1 207 = .ok (.iload 8, 2) := by decide +kernel
theorem dX5_search_209 : decode mX5_search.2.1 209 = .ok (.invokevirtual 70, 3) := by decide +kernel
theorem dX5_search_212 : decode mX5_search.2.1 212 = .ok (.iinc 9 1, 3) := by decide +kernel
theorem dX5_search_215 : decode mX5_search.2.1 215 = .ok (.goto (-31), 3) := by decide +kernel
theorem dX5_search_218 : decode mX5_search.2.1 218 = .ok (.return_, 1) := by decide +kernel
def w_X5_takeNearest_p4_b (post : Int32 → am_I → am_N → Prop) (zk4 : Int32 → Int32 → Int32 → am_I → am_N → Prop) (l1 : Int32) (l2 : Int32) (l3 : Int32) (M : am_I) (N : am_N) : Prop :=
  (((M (0, 0, 2) 4) ≤ l3 → vp_in l2 64 ∧ ∀ zv1 : Int32, zv1 = M (0, 0, 6) l2.toNatClampNeg → vp_in ((am_u M (0, 0, 2) 4 ((M (0, 0, 2) 4) - 1)) (0, 0, 2) 4) 64 ∧ vp_in l2 64 ∧ post zv1 (am_u (am_u M (0, 0, 2) 4 ((M (0, 0, 2) 4) - 1)) (0, 0, 6) l2.toNatClampNeg ((am_u M (0, 0, 2) 4 ((M (0, 0, 2) 4) - 1)) (0, 0, 6) ((am_u M (0, 0, 2) 4 ((M (0, 0, 2) 4) - 1)) (0, 0, 2) 4).toNatClampNeg)) N) ∧ (¬ (M (0, 0, 2) 4) ≤ l3 → vp_in l3 64 ∧ vp_in (l1 + (M (0, 0, 6) l3.toNatClampNeg)) 512 ∧ vp_in l2 64 ∧ vp_in (l1 + (M (0, 0, 6) l2.toNatClampNeg)) 512 ∧ (((M (0, 0, 3) (l1 + (M (0, 0, 6) l2.toNatClampNeg)).toNatClampNeg) ≤ (M (0, 0, 3) (l1 + (M (0, 0, 6) l3.toNatClampNeg)).toNatClampNeg) → zk4 l1 l2 (l3 + 1) M N) ∧ (¬ (M (0, 0, 3) (l1 + (M (0, 0, 6) l2.toNatClampNeg)).toNatClampNeg) ≤ (M (0, 0, 3) (l1 + (M (0, 0, 6) l3.toNatClampNeg)).toNatClampNeg) → zk4 l1 l3 (l3 + 1) M N))))
noncomputable def w_X5_takeNearest_p4 (post : Int32 → am_I → am_N → Prop) (n : Nat) : Int32 → Int32 → Int32 → am_I → am_N → Prop :=
  Nat.rec (motive := fun _ => Int32 → Int32 → Int32 → am_I → am_N → Prop) (fun _ _ _ _ _ => False) (fun _ zk => w_X5_takeNearest_p4_b post zk) n
theorem w_X5_takeNearest_p4_s (post : Int32 → am_I → am_N → Prop) (n : Nat) (l1 : Int32) (l2 : Int32) (l3 : Int32) (M : am_I) (N : am_N) : w_X5_takeNearest_p4 post (n + 1) l1 l2 l3 M N = w_X5_takeNearest_p4_b post (w_X5_takeNearest_p4 post n) l1 l2 l3 M N := rfl
set_option maxRecDepth 10000 in
theorem k_X5_takeNearest_p4 {d : Nat} {dm : List am_C} (h0 : am_d0 dm) {post : Int32 → am_I → am_N → Prop} : ∀ (n : Nat) (l1 : Int32) (l2 : Int32) (l3 : Int32) (M : am_I) (N : am_N), w_X5_takeNearest_p4 post n l1 l2 l3 M N → jg (d + 1) mX5_takeNearest dm 4 [(0, .inr (.inr (0, 0, 2))), (1, .inl l1), (2, .inl l2), (3, .inl l3)] [] M N (am_pi post) := by
  intro n
  induction n with
  | zero => intro l1 l2 l3 M N h; exact h.elim
  | succ n zih =>
    intro l1 l2 l3 M N h
    replace h : w_X5_takeNearest_p4_b post (w_X5_takeNearest_p4 post n) l1 l2 l3 M N := h
    refine j_iload_n 3 dX5_takeNearest_4 rfl ?_
    refine j_aload_n 0 dX5_takeNearest_5 rfl ?_
    refine j_getI dX5_takeNearest_6 fsRX5_62 (h0 2 (by decide)) rfl ?_
    refine j_icmp_ge (tgt := 49) dX5_takeNearest_9 (by decide) (fun hc => ?_) (fun hc => ?_)
    · replace h := h.1 hc
      refine j_aload_n 0 dX5_takeNearest_49 rfl ?_
      refine j_getR (b := (0, 0, 6)) dX5_takeNearest_50 fsRX5_21 (h0 2 (by decide)) rfl rfl ?_
      refine j_iload_n 2 dX5_takeNearest_53 rfl ?_
      obtain ⟨hq, h⟩ := h
      refine j_iald dX5_takeNearest_54 (h0 6 (by decide)) rfl hq ?_
      refine j_topi (fun zv1 hzv1 => ?_)
      replace h := h zv1 hzv1
      refine j_istore_n dX5_takeNearest_55 (by decide) rfl ?_
      refine j_aload_n 1 dX5_takeNearest_56 rfl ?_
      refine j_dup dX5_takeNearest_57 rfl ?_
      refine j_getI dX5_takeNearest_58 fsRX5_62 (h0 2 (by decide)) rfl ?_
      refine j_iconst (v := 1) dX5_takeNearest_61 (by decide) ?_
      refine j_isub dX5_takeNearest_62 ?_
      refine j_putI dX5_takeNearest_63 fwRX5_62 (h0 2 (by decide)) rfl ?_
      refine j_aload_n 1 dX5_takeNearest_66 rfl ?_
      refine j_getR (b := (0, 0, 6)) dX5_takeNearest_67 fsRX5_21 (h0 2 (by decide)) rfl rfl ?_
      refine j_iload_n 3 dX5_takeNearest_70 rfl ?_
      refine j_aload_n 1 dX5_takeNearest_71 rfl ?_
      refine j_getR (b := (0, 0, 6)) dX5_takeNearest_72 fsRX5_21 (h0 2 (by decide)) rfl rfl ?_
      refine j_aload_n 1 dX5_takeNearest_75 rfl ?_
      refine j_getI dX5_takeNearest_76 fsRX5_62 (h0 2 (by decide)) rfl ?_
      obtain ⟨hq, h⟩ := h
      refine j_iald dX5_takeNearest_79 (h0 6 (by decide)) rfl hq ?_
      obtain ⟨hq, h⟩ := h
      refine j_iast dX5_takeNearest_80 (h0 6 (by decide)) rfl hq ?_
      refine j_iload_n 0 dX5_takeNearest_81 rfl ?_
      exact j_iret dX5_takeNearest_82 rfl ⟨_, rfl, h⟩
    · replace h := h.2 hc
      refine j_aload_n 0 dX5_takeNearest_12 rfl ?_
      refine j_getR (b := (0, 0, 3)) dX5_takeNearest_13 fsRX5_9 (h0 2 (by decide)) rfl rfl ?_
      refine j_iload_n 1 dX5_takeNearest_16 rfl ?_
      refine j_aload_n 0 dX5_takeNearest_17 rfl ?_
      refine j_getR (b := (0, 0, 6)) dX5_takeNearest_18 fsRX5_21 (h0 2 (by decide)) rfl rfl ?_
      refine j_iload_n 3 dX5_takeNearest_21 rfl ?_
      obtain ⟨hq, h⟩ := h
      refine j_iald dX5_takeNearest_22 (h0 6 (by decide)) rfl hq ?_
      refine j_iadd dX5_takeNearest_23 ?_
      obtain ⟨hq, h⟩ := h
      refine j_iald dX5_takeNearest_24 (h0 3 (by decide)) rfl hq ?_
      refine j_aload_n 0 dX5_takeNearest_25 rfl ?_
      refine j_getR (b := (0, 0, 3)) dX5_takeNearest_26 fsRX5_9 (h0 2 (by decide)) rfl rfl ?_
      refine j_iload_n 1 dX5_takeNearest_29 rfl ?_
      refine j_aload_n 0 dX5_takeNearest_30 rfl ?_
      refine j_getR (b := (0, 0, 6)) dX5_takeNearest_31 fsRX5_21 (h0 2 (by decide)) rfl rfl ?_
      refine j_iload_n 2 dX5_takeNearest_34 rfl ?_
      obtain ⟨hq, h⟩ := h
      refine j_iald dX5_takeNearest_35 (h0 6 (by decide)) rfl hq ?_
      refine j_iadd dX5_takeNearest_36 ?_
      obtain ⟨hq, h⟩ := h
      refine j_iald dX5_takeNearest_37 (h0 3 (by decide)) rfl hq ?_
      refine j_icmp_ge (tgt := 43) dX5_takeNearest_38 (by decide) (fun hc => ?_) (fun hc => ?_)
      · replace h := h.1 hc
        refine j_iinc 3 dX5_takeNearest_43 rfl rfl (by decide) rfl ?_
        refine j_goto (tgt := 4) dX5_takeNearest_46 (by decide) ?_
        refine j_sub [1, 2, 3, 0] rfl ?_
        exact zih _ _ _ _ _ h
      · replace h := h.2 hc
        refine j_iload_n 3 dX5_takeNearest_41 rfl ?_
        refine j_istore_n dX5_takeNearest_42 (by decide) rfl ?_
        refine j_iinc 3 dX5_takeNearest_43 rfl rfl (by decide) rfl ?_
        refine j_goto (tgt := 4) dX5_takeNearest_46 (by decide) ?_
        refine j_sub [2, 3, 1, 0] rfl ?_
        exact zih _ _ _ _ _ h
def w_X5_takeNearest (a1 : Int32) (M : am_I) (N : am_N) (post : Int32 → am_I → am_N → Prop) : Prop :=
  ∃ n, w_X5_takeNearest_p4 post n a1 0 1 M N
set_option maxRecDepth 10000 in
theorem k_X5_takeNearest {d : Nat} {dm : List am_C} (h0 : am_d0 dm) {a1 : Int32} {M : am_I} {N : am_N} {post : Int32 → am_I → am_N → Prop} (h : w_X5_takeNearest a1 M N post) : jg (d + 1) mX5_takeNearest dm 0 [(0, .inr (.inr (0, 0, 2))), (1, .inl a1)] [] M N (am_pi post) := by
  refine j_iconst (v := 0) dX5_takeNearest_0 (by decide) ?_
  refine j_istore_n dX5_takeNearest_1 (by decide) rfl ?_
  refine j_iconst (v := 1) dX5_takeNearest_2 (by decide) ?_
  refine j_istore_n dX5_takeNearest_3 (by decide) rfl ?_
  refine j_sub [2, 3, 1, 0] rfl ?_
  obtain ⟨n, h⟩ := h
  exact k_X5_takeNearest_p4 h0 n _ _ _ _ _ h
def w_X5_hasWay (a1 : Int32) (a2 : Int32) (M : am_I) (N : am_N) (post : Int32 → am_I → am_N → Prop) : Prop :=
  ((a1 < 0 → post 0 M N) ∧ (¬ a1 < 0 → ((8 ≤ a1 → post 0 M N) ∧ (¬ 8 ≤ a1 → ((a2 < 0 → post 0 M N) ∧ (¬ a2 < 0 → ((a2 < 64 → vp_in ((a1 * 64) + a2) 512 ∧ ((2000000000 ≤ (M (0, 0, 3) ((a1 * 64) + a2).toNatClampNeg) → post 0 M N) ∧ (¬ 2000000000 ≤ (M (0, 0, 3) ((a1 * 64) + a2).toNatClampNeg) → post 1 M N))) ∧ (¬ a2 < 64 → post 0 M N))))))))
set_option maxRecDepth 10000 in
theorem k_X5_hasWay {d : Nat} {dm : List am_C} (h0 : am_d0 dm) {a1 : Int32} {a2 : Int32} {M : am_I} {N : am_N} {post : Int32 → am_I → am_N → Prop} (h : w_X5_hasWay a1 a2 M N post) : jg (d + 1) mX5_hasWay dm 0 [(0, .inr (.inr (0, 0, 2))), (1, .inl a1), (2, .inl a2)] [] M N (am_pi post) := by
  refine j_iload_n 1 dX5_hasWay_0 rfl ?_
  refine j_if_lt (tgt := 20) dX5_hasWay_1 (by decide) (fun hc => ?_) (fun hc => ?_)
  · replace h := h.1 hc
    refine j_iconst (v := 0) dX5_hasWay_20 (by decide) ?_
    exact j_zret dX5_hasWay_21 rfl (Or.inl rfl) ⟨_, rfl, h⟩
  · replace h := h.2 hc
    refine j_iload_n 1 dX5_hasWay_4 rfl ?_
    refine j_bipush (v := 8) dX5_hasWay_5 (by decide) ?_
    refine j_icmp_ge (tgt := 20) dX5_hasWay_7 (by decide) (fun hc => ?_) (fun hc => ?_)
    · replace h := h.1 hc
      refine j_iconst (v := 0) dX5_hasWay_20 (by decide) ?_
      exact j_zret dX5_hasWay_21 rfl (Or.inl rfl) ⟨_, rfl, h⟩
    · replace h := h.2 hc
      refine j_iload_n 2 dX5_hasWay_10 rfl ?_
      refine j_if_lt (tgt := 20) dX5_hasWay_11 (by decide) (fun hc => ?_) (fun hc => ?_)
      · replace h := h.1 hc
        refine j_iconst (v := 0) dX5_hasWay_20 (by decide) ?_
        exact j_zret dX5_hasWay_21 rfl (Or.inl rfl) ⟨_, rfl, h⟩
      · replace h := h.2 hc
        refine j_iload_n 2 dX5_hasWay_14 rfl ?_
        refine j_bipush (v := 64) dX5_hasWay_15 (by decide) ?_
        refine j_icmp_lt (tgt := 22) dX5_hasWay_17 (by decide) (fun hc => ?_) (fun hc => ?_)
        · replace h := h.1 hc
          refine j_aload_n 0 dX5_hasWay_22 rfl ?_
          refine j_getR (b := (0, 0, 3)) dX5_hasWay_23 fsRX5_9 (h0 2 (by decide)) rfl rfl ?_
          refine j_iload_n 1 dX5_hasWay_26 rfl ?_
          refine j_bipush (v := 64) dX5_hasWay_27 (by decide) ?_
          refine j_imul dX5_hasWay_29 ?_
          refine j_iload_n 2 dX5_hasWay_30 rfl ?_
          refine j_iadd dX5_hasWay_31 ?_
          obtain ⟨hq, h⟩ := h
          refine j_iald dX5_hasWay_32 (h0 3 (by decide)) rfl hq ?_
          refine j_ldc (v := 2000000000) dX5_hasWay_33 cw_774 ?_
          refine j_icmp_ge (tgt := 42) dX5_hasWay_35 (by decide) (fun hc => ?_) (fun hc => ?_)
          · replace h := h.1 hc
            refine j_iconst (v := 0) dX5_hasWay_42 (by decide) ?_
            exact j_zret dX5_hasWay_43 rfl (Or.inl rfl) ⟨_, rfl, h⟩
          · replace h := h.2 hc
            refine j_iconst (v := 1) dX5_hasWay_38 (by decide) ?_
            refine j_goto (tgt := 43) dX5_hasWay_39 (by decide) ?_
            exact j_zret dX5_hasWay_43 rfl (Or.inr rfl) ⟨_, rfl, h⟩
        · replace h := h.2 hc
          refine j_iconst (v := 0) dX5_hasWay_20 (by decide) ?_
          exact j_zret dX5_hasWay_21 rfl (Or.inl rfl) ⟨_, rfl, h⟩
def w_X5_costTo (a1 : Int32) (a2 : Int32) (M : am_I) (N : am_N) (post : Int32 → am_I → am_N → Prop) : Prop :=
  w_X5_hasWay a1 a2 M N (fun zr1 zM2 zN3 => ((zr1 = 0 → post (-1) zM2 zN3) ∧ (¬ zr1 = 0 → vp_in ((a1 * 64) + a2) 512 ∧ post ((zM2 (0, 0, 3) ((a1 * 64) + a2).toNatClampNeg) / 128) zM2 zN3)))
set_option maxRecDepth 10000 in
theorem k_X5_costTo {d : Nat} {dm : List am_C} (h0 : am_d0 dm) {a1 : Int32} {a2 : Int32} {M : am_I} {N : am_N} {post : Int32 → am_I → am_N → Prop} (h : w_X5_costTo a1 a2 M N post) : jg (d + 2) mX5_costTo dm 0 [(0, .inr (.inr (0, 0, 2))), (1, .inl a1), (2, .inl a2)] [] M N (am_pi post) := by
  refine j_aload_n 0 dX5_costTo_0 rfl ?_
  refine j_iload_n 1 dX5_costTo_1 rfl ?_
  refine j_iload_n 2 dX5_costTo_2 rfl ?_
  refine j_invV (As := [.inl a1, .inl a2]) dX5_costTo_3 msRX5_82 mbX5_hasWay rfl rfl (Nat.le_of_ble_eq_true rfl) (Nat.le_of_ble_eq_true rfl) (by omega) (h0 2 (by decide)) rfl rfl (k_X5_hasWay (d := d + 0) h0 h) ?_
  rintro _ zM2 zN3 ⟨zr1, rfl, h⟩
  refine j_if_eq (tgt := 27) dX5_costTo_6 (by decide) (fun hc => ?_) (fun hc => ?_)
  · replace h := h.1 hc
    refine j_iconst (v := (-1)) dX5_costTo_27 (by decide) ?_
    exact j_iret dX5_costTo_28 rfl ⟨_, rfl, h⟩
  · replace h := h.2 hc
    refine j_aload_n 0 dX5_costTo_9 rfl ?_
    refine j_getR (b := (0, 0, 3)) dX5_costTo_10 fsRX5_9 (h0 2 (by decide)) rfl rfl ?_
    refine j_iload_n 1 dX5_costTo_13 rfl ?_
    refine j_bipush (v := 64) dX5_costTo_14 (by decide) ?_
    refine j_imul dX5_costTo_16 ?_
    refine j_iload_n 2 dX5_costTo_17 rfl ?_
    refine j_iadd dX5_costTo_18 ?_
    obtain ⟨hq, h⟩ := h
    refine j_iald dX5_costTo_19 (h0 3 (by decide)) rfl hq ?_
    refine j_sipush (v := 128) dX5_costTo_20 (by decide) ?_
    refine j_idiv dX5_costTo_23 (by decide) ?_
    refine j_goto (tgt := 28) dX5_costTo_24 (by decide) ?_
    exact j_iret dX5_costTo_28 rfl ⟨_, rfl, h⟩
def w_X5_stepsTo (a1 : Int32) (a2 : Int32) (M : am_I) (N : am_N) (post : Int32 → am_I → am_N → Prop) : Prop :=
  w_X5_hasWay a1 a2 M N (fun zr1 zM2 zN3 => ((zr1 = 0 → post (-1) zM2 zN3) ∧ (¬ zr1 = 0 → vp_in ((a1 * 64) + a2) 512 ∧ post (am_rem (zM2 (0, 0, 3) ((a1 * 64) + a2).toNatClampNeg) 128) zM2 zN3)))
set_option maxRecDepth 10000 in
theorem k_X5_stepsTo {d : Nat} {dm : List am_C} (h0 : am_d0 dm) {a1 : Int32} {a2 : Int32} {M : am_I} {N : am_N} {post : Int32 → am_I → am_N → Prop} (h : w_X5_stepsTo a1 a2 M N post) : jg (d + 2) mX5_stepsTo dm 0 [(0, .inr (.inr (0, 0, 2))), (1, .inl a1), (2, .inl a2)] [] M N (am_pi post) := by
  refine j_aload_n 0 dX5_stepsTo_0 rfl ?_
  refine j_iload_n 1 dX5_stepsTo_1 rfl ?_
  refine j_iload_n 2 dX5_stepsTo_2 rfl ?_
  refine j_invV (As := [.inl a1, .inl a2]) dX5_stepsTo_3 msRX5_82 mbX5_hasWay rfl rfl (Nat.le_of_ble_eq_true rfl) (Nat.le_of_ble_eq_true rfl) (by omega) (h0 2 (by decide)) rfl rfl (k_X5_hasWay (d := d + 0) h0 h) ?_
  rintro _ zM2 zN3 ⟨zr1, rfl, h⟩
  refine j_if_eq (tgt := 27) dX5_stepsTo_6 (by decide) (fun hc => ?_) (fun hc => ?_)
  · replace h := h.1 hc
    refine j_iconst (v := (-1)) dX5_stepsTo_27 (by decide) ?_
    exact j_iret dX5_stepsTo_28 rfl ⟨_, rfl, h⟩
  · replace h := h.2 hc
    refine j_aload_n 0 dX5_stepsTo_9 rfl ?_
    refine j_getR (b := (0, 0, 3)) dX5_stepsTo_10 fsRX5_9 (h0 2 (by decide)) rfl rfl ?_
    refine j_iload_n 1 dX5_stepsTo_13 rfl ?_
    refine j_bipush (v := 64) dX5_stepsTo_14 (by decide) ?_
    refine j_imul dX5_stepsTo_16 ?_
    refine j_iload_n 2 dX5_stepsTo_17 rfl ?_
    refine j_iadd dX5_stepsTo_18 ?_
    obtain ⟨hq, h⟩ := h
    refine j_iald dX5_stepsTo_19 (h0 3 (by decide)) rfl hq ?_
    refine j_sipush (v := 128) dX5_stepsTo_20 (by decide) ?_
    refine j_irem dX5_stepsTo_23 (by decide) ?_
    refine j_goto (tgt := 28) dX5_stepsTo_24 (by decide) ?_
    exact j_iret dX5_stepsTo_28 rfl ⟨_, rfl, h⟩
def w_X5_firstTo (a1 : Int32) (a2 : Int32) (M : am_I) (N : am_N) (post : Int32 → am_I → am_N → Prop) : Prop :=
  w_X5_hasWay a1 a2 M N (fun zr1 zM2 zN3 => ((zr1 = 0 → post (-1) zM2 zN3) ∧ (¬ zr1 = 0 → vp_in ((a1 * 64) + a2) 512 ∧ post (zM2 (0, 0, 4) ((a1 * 64) + a2).toNatClampNeg) zM2 zN3)))
set_option maxRecDepth 10000 in
theorem k_X5_firstTo {d : Nat} {dm : List am_C} (h0 : am_d0 dm) {a1 : Int32} {a2 : Int32} {M : am_I} {N : am_N} {post : Int32 → am_I → am_N → Prop} (h : w_X5_firstTo a1 a2 M N post) : jg (d + 2) mX5_firstTo dm 0 [(0, .inr (.inr (0, 0, 2))), (1, .inl a1), (2, .inl a2)] [] M N (am_pi post) := by
  refine j_aload_n 0 dX5_firstTo_0 rfl ?_
  refine j_iload_n 1 dX5_firstTo_1 rfl ?_
  refine j_iload_n 2 dX5_firstTo_2 rfl ?_
  refine j_invV (As := [.inl a1, .inl a2]) dX5_firstTo_3 msRX5_82 mbX5_hasWay rfl rfl (Nat.le_of_ble_eq_true rfl) (Nat.le_of_ble_eq_true rfl) (by omega) (h0 2 (by decide)) rfl rfl (k_X5_hasWay (d := d + 0) h0 h) ?_
  rintro _ zM2 zN3 ⟨zr1, rfl, h⟩
  refine j_if_eq (tgt := 23) dX5_firstTo_6 (by decide) (fun hc => ?_) (fun hc => ?_)
  · replace h := h.1 hc
    refine j_iconst (v := (-1)) dX5_firstTo_23 (by decide) ?_
    exact j_iret dX5_firstTo_24 rfl ⟨_, rfl, h⟩
  · replace h := h.2 hc
    refine j_aload_n 0 dX5_firstTo_9 rfl ?_
    refine j_getR (b := (0, 0, 4)) dX5_firstTo_10 fsRX5_15 (h0 2 (by decide)) rfl rfl ?_
    refine j_iload_n 1 dX5_firstTo_13 rfl ?_
    refine j_bipush (v := 64) dX5_firstTo_14 (by decide) ?_
    refine j_imul dX5_firstTo_16 ?_
    refine j_iload_n 2 dX5_firstTo_17 rfl ?_
    refine j_iadd dX5_firstTo_18 ?_
    obtain ⟨hq, h⟩ := h
    refine j_iald dX5_firstTo_19 (h0 4 (by decide)) rfl hq ?_
    refine j_goto (tgt := 24) dX5_firstTo_20 (by decide) ?_
    exact j_iret dX5_firstTo_24 rfl ⟨_, rfl, h⟩
def w_X5_isNearer (a1 : Int32) (a2 : Int32) (a3 : Int32) (M : am_I) (N : am_N) (post : Int32 → am_I → am_N → Prop) : Prop :=
  vp_in (a1 + a2) 512 ∧ vp_in (a1 + a3) 512 ∧ (((M (0, 0, 3) (a1 + a2).toNatClampNeg) = (M (0, 0, 3) (a1 + a3).toNatClampNeg) → vp_in (a1 + a2) 512 ∧ vp_in (a1 + a3) 512 ∧ (((M (0, 0, 4) (a1 + a3).toNatClampNeg) ≤ (M (0, 0, 4) (a1 + a2).toNatClampNeg) → post 0 M N) ∧ (¬ (M (0, 0, 4) (a1 + a3).toNatClampNeg) ≤ (M (0, 0, 4) (a1 + a2).toNatClampNeg) → post 1 M N))) ∧ (¬ (M (0, 0, 3) (a1 + a2).toNatClampNeg) = (M (0, 0, 3) (a1 + a3).toNatClampNeg) → vp_in (a1 + a2) 512 ∧ vp_in (a1 + a3) 512 ∧ (((M (0, 0, 3) (a1 + a3).toNatClampNeg) ≤ (M (0, 0, 3) (a1 + a2).toNatClampNeg) → post 0 M N) ∧ (¬ (M (0, 0, 3) (a1 + a3).toNatClampNeg) ≤ (M (0, 0, 3) (a1 + a2).toNatClampNeg) → post 1 M N))))
set_option maxRecDepth 10000 in
theorem k_X5_isNearer {d : Nat} {dm : List am_C} (h0 : am_d0 dm) {a1 : Int32} {a2 : Int32} {a3 : Int32} {M : am_I} {N : am_N} {post : Int32 → am_I → am_N → Prop} (h : w_X5_isNearer a1 a2 a3 M N post) : jg (d + 1) mX5_isNearer dm 0 [(0, .inr (.inr (0, 0, 2))), (1, .inl a1), (2, .inl a2), (3, .inl a3)] [] M N (am_pi post) := by
  refine j_aload_n 0 dX5_isNearer_0 rfl ?_
  refine j_getR (b := (0, 0, 3)) dX5_isNearer_1 fsRX5_9 (h0 2 (by decide)) rfl rfl ?_
  refine j_iload_n 1 dX5_isNearer_4 rfl ?_
  refine j_iload_n 2 dX5_isNearer_5 rfl ?_
  refine j_iadd dX5_isNearer_6 ?_
  obtain ⟨hq, h⟩ := h
  refine j_iald dX5_isNearer_7 (h0 3 (by decide)) rfl hq ?_
  refine j_aload_n 0 dX5_isNearer_8 rfl ?_
  refine j_getR (b := (0, 0, 3)) dX5_isNearer_9 fsRX5_9 (h0 2 (by decide)) rfl rfl ?_
  refine j_iload_n 1 dX5_isNearer_12 rfl ?_
  refine j_iload_n 3 dX5_isNearer_13 rfl ?_
  refine j_iadd dX5_isNearer_14 ?_
  obtain ⟨hq, h⟩ := h
  refine j_iald dX5_isNearer_15 (h0 3 (by decide)) rfl hq ?_
  refine j_icmp_eq (tgt := 44) dX5_isNearer_16 (by decide) (fun hc => ?_) (fun hc => ?_)
  · replace h := h.1 hc
    refine j_aload_n 0 dX5_isNearer_44 rfl ?_
    refine j_getR (b := (0, 0, 4)) dX5_isNearer_45 fsRX5_15 (h0 2 (by decide)) rfl rfl ?_
    refine j_iload_n 1 dX5_isNearer_48 rfl ?_
    refine j_iload_n 2 dX5_isNearer_49 rfl ?_
    refine j_iadd dX5_isNearer_50 ?_
    obtain ⟨hq, h⟩ := h
    refine j_iald dX5_isNearer_51 (h0 4 (by decide)) rfl hq ?_
    refine j_aload_n 0 dX5_isNearer_52 rfl ?_
    refine j_getR (b := (0, 0, 4)) dX5_isNearer_53 fsRX5_15 (h0 2 (by decide)) rfl rfl ?_
    refine j_iload_n 1 dX5_isNearer_56 rfl ?_
    refine j_iload_n 3 dX5_isNearer_57 rfl ?_
    refine j_iadd dX5_isNearer_58 ?_
    obtain ⟨hq, h⟩ := h
    refine j_iald dX5_isNearer_59 (h0 4 (by decide)) rfl hq ?_
    refine j_icmp_ge (tgt := 67) dX5_isNearer_60 (by decide) (fun hc => ?_) (fun hc => ?_)
    · replace h := h.1 hc
      refine j_iconst (v := 0) dX5_isNearer_67 (by decide) ?_
      exact j_zret dX5_isNearer_68 rfl (Or.inl rfl) ⟨_, rfl, h⟩
    · replace h := h.2 hc
      refine j_iconst (v := 1) dX5_isNearer_63 (by decide) ?_
      refine j_goto (tgt := 68) dX5_isNearer_64 (by decide) ?_
      exact j_zret dX5_isNearer_68 rfl (Or.inr rfl) ⟨_, rfl, h⟩
  · replace h := h.2 hc
    refine j_aload_n 0 dX5_isNearer_19 rfl ?_
    refine j_getR (b := (0, 0, 3)) dX5_isNearer_20 fsRX5_9 (h0 2 (by decide)) rfl rfl ?_
    refine j_iload_n 1 dX5_isNearer_23 rfl ?_
    refine j_iload_n 2 dX5_isNearer_24 rfl ?_
    refine j_iadd dX5_isNearer_25 ?_
    obtain ⟨hq, h⟩ := h
    refine j_iald dX5_isNearer_26 (h0 3 (by decide)) rfl hq ?_
    refine j_aload_n 0 dX5_isNearer_27 rfl ?_
    refine j_getR (b := (0, 0, 3)) dX5_isNearer_28 fsRX5_9 (h0 2 (by decide)) rfl rfl ?_
    refine j_iload_n 1 dX5_isNearer_31 rfl ?_
    refine j_iload_n 3 dX5_isNearer_32 rfl ?_
    refine j_iadd dX5_isNearer_33 ?_
    obtain ⟨hq, h⟩ := h
    refine j_iald dX5_isNearer_34 (h0 3 (by decide)) rfl hq ?_
    refine j_icmp_ge (tgt := 42) dX5_isNearer_35 (by decide) (fun hc => ?_) (fun hc => ?_)
    · replace h := h.1 hc
      refine j_iconst (v := 0) dX5_isNearer_42 (by decide) ?_
      exact j_zret dX5_isNearer_43 rfl (Or.inl rfl) ⟨_, rfl, h⟩
    · replace h := h.2 hc
      refine j_iconst (v := 1) dX5_isNearer_38 (by decide) ?_
      refine j_goto (tgt := 43) dX5_isNearer_39 (by decide) ?_
      exact j_zret dX5_isNearer_43 rfl (Or.inr rfl) ⟨_, rfl, h⟩
def w_X5_goOnFrom_p131 (post : am_I → am_N → Prop) (zk3 : Int32 → Int32 → Int32 → Int32 → am_I → am_N → Prop) (l1 : Int32) (l2 : Int32) (l3 : Int32) (l4 : Int32) (l5 : Int32) (l6 : Int32) (l7 : Int32) (M : am_I) (N : am_N) : Prop :=
  vp_in (l1 + l5) 512 ∧ vp_in (l1 + l5) 512 ∧ zk3 l1 l2 l3 (l4 + 1) (am_u (am_u M (0, 0, 3) (l1 + l5).toNatClampNeg l6) (0, 0, 4) (l1 + l5).toNatClampNeg l7) N
set_option maxRecDepth 10000 in
theorem k_X5_goOnFrom_p131 {d : Nat} {dm : List am_C} (h0 : am_d0 dm) {post : am_I → am_N → Prop} {zk3 : Int32 → Int32 → Int32 → Int32 → am_I → am_N → Prop} (zhk3 : ∀ (l1 : Int32) (l2 : Int32) (l3 : Int32) (l4 : Int32) (M : am_I) (N : am_N), zk3 l1 l2 l3 l4 M N → jg (d + 2) mX5_goOnFrom dm 3 [(0, .inr (.inr (0, 0, 2))), (1, .inl l1), (2, .inl l2), (3, .inl l3), (4, .inl l4)] [] M N (am_pv post)) (l1 : Int32) (l2 : Int32) (l3 : Int32) (l4 : Int32) (l5 : Int32) (l6 : Int32) (l7 : Int32) (M : am_I) (N : am_N) (h : w_X5_goOnFrom_p131 post zk3 l1 l2 l3 l4 l5 l6 l7 M N) : jg (d + 2) mX5_goOnFrom dm 131 [(0, .inr (.inr (0, 0, 2))), (1, .inl l1), (2, .inl l2), (3, .inl l3), (4, .inl l4), (5, .inl l5), (6, .inl l6), (7, .inl l7)] [] M N (am_pv post) := by
  refine j_aload_n 0 dX5_goOnFrom_131 rfl ?_
  refine j_getR (b := (0, 0, 3)) dX5_goOnFrom_132 fsRX5_9 (h0 2 (by decide)) rfl rfl ?_
  refine j_iload_n 1 dX5_goOnFrom_135 rfl ?_
  refine j_iload 5 dX5_goOnFrom_136 rfl ?_
  refine j_iadd dX5_goOnFrom_138 ?_
  refine j_iload 6 dX5_goOnFrom_139 rfl ?_
  obtain ⟨hq, h⟩ := h
  refine j_iast dX5_goOnFrom_141 (h0 3 (by decide)) rfl hq ?_
  refine j_aload_n 0 dX5_goOnFrom_142 rfl ?_
  refine j_getR (b := (0, 0, 4)) dX5_goOnFrom_143 fsRX5_15 (h0 2 (by decide)) rfl rfl ?_
  refine j_iload_n 1 dX5_goOnFrom_146 rfl ?_
  refine j_iload 5 dX5_goOnFrom_147 rfl ?_
  refine j_iadd dX5_goOnFrom_149 ?_
  refine j_iload 7 dX5_goOnFrom_150 rfl ?_
  obtain ⟨hq, h⟩ := h
  refine j_iast dX5_goOnFrom_152 (h0 4 (by decide)) rfl hq ?_
  refine j_goto (tgt := 193) dX5_goOnFrom_153 (by decide) ?_
  refine j_iinc 4 dX5_goOnFrom_193 rfl rfl (by decide) rfl ?_
  refine j_goto (tgt := 3) dX5_goOnFrom_196 (by decide) ?_
  refine j_sub [1, 2, 3, 4, 0] rfl ?_
  exact zhk3 _ _ _ _ _ _ h
def w_X5_goOnFrom_p71 (post : am_I → am_N → Prop) (zk3 : Int32 → Int32 → Int32 → Int32 → am_I → am_N → Prop) (l1 : Int32) (l2 : Int32) (l3 : Int32) (l4 : Int32) (l5 : Int32) (l6 : Int32) (s0 : Int32) (M : am_I) (N : am_N) : Prop :=
  vp_in (l1 + l5) 512 ∧ (((M (0, 0, 3) (l1 + l5).toNatClampNeg) ≤ l6 → vp_in (l1 + l5) 512 ∧ ((¬ l6 = (M (0, 0, 3) (l1 + l5).toNatClampNeg) → zk3 l1 l2 l3 (l4 + 1) M N) ∧ (l6 = (M (0, 0, 3) (l1 + l5).toNatClampNeg) → vp_in (l1 + l5) 512 ∧ w_J9_min_7cf53 (M (0, 0, 4) (l1 + l5).toNatClampNeg) s0 M N (fun zr1 zM2 zN3 => vp_in (l1 + l5) 512 ∧ zk3 l1 l2 l3 (l4 + 1) (am_u zM2 (0, 0, 4) (l1 + l5).toNatClampNeg zr1) zN3)))) ∧ (¬ (M (0, 0, 3) (l1 + l5).toNatClampNeg) ≤ l6 → vp_in (l1 + l5) 512 ∧ ((¬ (M (0, 0, 3) (l1 + l5).toNatClampNeg) = 2000000000 → w_X5_goOnFrom_p131 post zk3 l1 l2 l3 l4 l5 l6 s0 M N) ∧ ((M (0, 0, 3) (l1 + l5).toNatClampNeg) = 2000000000 → ((64 ≤ (M (0, 0, 2) 4) → w_X5_goOnFrom_p131 post zk3 l1 l2 l3 l4 l5 l6 s0 M N) ∧ (¬ 64 ≤ (M (0, 0, 2) 4) → vp_in (M (0, 0, 2) 4) 64 ∧ w_X5_goOnFrom_p131 post zk3 l1 l2 l3 l4 l5 l6 s0 (am_u (am_u M (0, 0, 6) (M (0, 0, 2) 4).toNatClampNeg l5) (0, 0, 2) 4 (((am_u M (0, 0, 6) (M (0, 0, 2) 4).toNatClampNeg l5) (0, 0, 2) 4) + 1)) N))))))
set_option maxRecDepth 10000 in
theorem k_X5_goOnFrom_p71 {d : Nat} {dm : List am_C} (h0 : am_d0 dm) {post : am_I → am_N → Prop} {zk3 : Int32 → Int32 → Int32 → Int32 → am_I → am_N → Prop} (zhk3 : ∀ (l1 : Int32) (l2 : Int32) (l3 : Int32) (l4 : Int32) (M : am_I) (N : am_N), zk3 l1 l2 l3 l4 M N → jg (d + 2) mX5_goOnFrom dm 3 [(0, .inr (.inr (0, 0, 2))), (1, .inl l1), (2, .inl l2), (3, .inl l3), (4, .inl l4)] [] M N (am_pv post)) (l1 : Int32) (l2 : Int32) (l3 : Int32) (l4 : Int32) (l5 : Int32) (l6 : Int32) (s0 : Int32) (M : am_I) (N : am_N) (h : w_X5_goOnFrom_p71 post zk3 l1 l2 l3 l4 l5 l6 s0 M N) : jg (d + 2) mX5_goOnFrom dm 71 [(0, .inr (.inr (0, 0, 2))), (1, .inl l1), (2, .inl l2), (3, .inl l3), (4, .inl l4), (5, .inl l5), (6, .inl l6)] [.inl s0] M N (am_pv post) := by
  refine j_istore dX5_goOnFrom_71 (by decide) rfl ?_
  refine j_iload 7 dX5_goOnFrom_73 rfl ?_
  refine j_aload_n 1 dX5_goOnFrom_75 rfl ?_
  refine j_getR (b := (0, 0, 3)) dX5_goOnFrom_76 fsRX5_9 (h0 2 (by decide)) rfl rfl ?_
  refine j_iload_n 2 dX5_goOnFrom_79 rfl ?_
  refine j_iload 6 dX5_goOnFrom_80 rfl ?_
  refine j_iadd dX5_goOnFrom_82 ?_
  obtain ⟨hq, h⟩ := h
  refine j_iald dX5_goOnFrom_83 (h0 3 (by decide)) rfl hq ?_
  refine j_icmp_ge (tgt := 156) dX5_goOnFrom_84 (by decide) (fun hc => ?_) (fun hc => ?_)
  · replace h := h.1 hc
    refine j_iload 7 dX5_goOnFrom_156 rfl ?_
    refine j_aload_n 1 dX5_goOnFrom_158 rfl ?_
    refine j_getR (b := (0, 0, 3)) dX5_goOnFrom_159 fsRX5_9 (h0 2 (by decide)) rfl rfl ?_
    refine j_iload_n 2 dX5_goOnFrom_162 rfl ?_
    refine j_iload 6 dX5_goOnFrom_163 rfl ?_
    refine j_iadd dX5_goOnFrom_165 ?_
    obtain ⟨hq, h⟩ := h
    refine j_iald dX5_goOnFrom_166 (h0 3 (by decide)) rfl hq ?_
    refine j_icmp_ne (tgt := 193) dX5_goOnFrom_167 (by decide) (fun hc => ?_) (fun hc => ?_)
    · replace h := h.1 hc
      refine j_iinc 5 dX5_goOnFrom_193 rfl rfl (by decide) rfl ?_
      refine j_goto (tgt := 3) dX5_goOnFrom_196 (by decide) ?_
      refine j_sub [2, 3, 4, 5, 0] rfl ?_
      exact zhk3 _ _ _ _ _ _ h
    · replace h := h.2 hc
      refine j_aload_n 1 dX5_goOnFrom_170 rfl ?_
      refine j_getR (b := (0, 0, 4)) dX5_goOnFrom_171 fsRX5_15 (h0 2 (by decide)) rfl rfl ?_
      refine j_iload_n 2 dX5_goOnFrom_174 rfl ?_
      refine j_iload 6 dX5_goOnFrom_175 rfl ?_
      refine j_iadd dX5_goOnFrom_177 ?_
      refine j_aload_n 1 dX5_goOnFrom_178 rfl ?_
      refine j_getR (b := (0, 0, 4)) dX5_goOnFrom_179 fsRX5_15 (h0 2 (by decide)) rfl rfl ?_
      refine j_iload_n 2 dX5_goOnFrom_182 rfl ?_
      refine j_iload 6 dX5_goOnFrom_183 rfl ?_
      refine j_iadd dX5_goOnFrom_185 ?_
      obtain ⟨hq, h⟩ := h
      refine j_iald dX5_goOnFrom_186 (h0 4 (by decide)) rfl hq ?_
      refine j_iload 0 dX5_goOnFrom_187 rfl ?_
      refine j_invS (As := [.inl (M (0, 0, 4) (l1 + l5).toNatClampNeg), .inl s0]) dX5_goOnFrom_189 msRX5_77 mbJ9_min_7cf53 rfl rfl (Nat.le_of_ble_eq_true rfl) (Nat.le_of_ble_eq_true rfl) (by omega) (k_J9_min_7cf53 (d := d + 0)  h) ?_
      rintro _ zM2 zN3 ⟨zr1, rfl, h⟩
      obtain ⟨hq, h⟩ := h
      refine j_iast dX5_goOnFrom_192 (h0 4 (by decide)) rfl hq ?_
      refine j_iinc 5 dX5_goOnFrom_193 rfl rfl (by decide) rfl ?_
      refine j_goto (tgt := 3) dX5_goOnFrom_196 (by decide) ?_
      refine j_sub [2, 3, 4, 5, 0] rfl ?_
      exact zhk3 _ _ _ _ _ _ h
  · replace h := h.2 hc
    refine j_aload_n 1 dX5_goOnFrom_87 rfl ?_
    refine j_getR (b := (0, 0, 3)) dX5_goOnFrom_88 fsRX5_9 (h0 2 (by decide)) rfl rfl ?_
    refine j_iload_n 2 dX5_goOnFrom_91 rfl ?_
    refine j_iload 6 dX5_goOnFrom_92 rfl ?_
    refine j_iadd dX5_goOnFrom_94 ?_
    obtain ⟨hq, h⟩ := h
    refine j_iald dX5_goOnFrom_95 (h0 3 (by decide)) rfl hq ?_
    refine j_ldc (v := 2000000000) dX5_goOnFrom_96 cw_774 ?_
    refine j_icmp_ne (tgt := 131) dX5_goOnFrom_98 (by decide) (fun hc => ?_) (fun hc => ?_)
    · replace h := h.1 hc
      refine j_sub [1, 2, 3, 4, 5, 6, 7, 0] rfl ?_
      exact k_X5_goOnFrom_p131 h0 zhk3 _ _ _ _ _ _ _ _ _ h
    · replace h := h.2 hc
      refine j_aload_n 1 dX5_goOnFrom_101 rfl ?_
      refine j_getI dX5_goOnFrom_102 fsRX5_62 (h0 2 (by decide)) rfl ?_
      refine j_bipush (v := 64) dX5_goOnFrom_105 (by decide) ?_
      refine j_icmp_ge (tgt := 131) dX5_goOnFrom_107 (by decide) (fun hc => ?_) (fun hc => ?_)
      · replace h := h.1 hc
        refine j_sub [1, 2, 3, 4, 5, 6, 7, 0] rfl ?_
        exact k_X5_goOnFrom_p131 h0 zhk3 _ _ _ _ _ _ _ _ _ h
      · replace h := h.2 hc
        refine j_aload_n 1 dX5_goOnFrom_110 rfl ?_
        refine j_getR (b := (0, 0, 6)) dX5_goOnFrom_111 fsRX5_21 (h0 2 (by decide)) rfl rfl ?_
        refine j_aload_n 1 dX5_goOnFrom_114 rfl ?_
        refine j_getI dX5_goOnFrom_115 fsRX5_62 (h0 2 (by decide)) rfl ?_
        refine j_iload 6 dX5_goOnFrom_118 rfl ?_
        obtain ⟨hq, h⟩ := h
        refine j_iast dX5_goOnFrom_120 (h0 6 (by decide)) rfl hq ?_
        refine j_aload_n 1 dX5_goOnFrom_121 rfl ?_
        refine j_dup dX5_goOnFrom_122 rfl ?_
        refine j_getI dX5_goOnFrom_123 fsRX5_62 (h0 2 (by decide)) rfl ?_
        refine j_iconst (v := 1) dX5_goOnFrom_126 (by decide) ?_
        refine j_iadd dX5_goOnFrom_127 ?_
        refine j_putI dX5_goOnFrom_128 fwRX5_62 (h0 2 (by decide)) rfl ?_
        refine j_sub [1, 2, 3, 4, 5, 6, 7, 0] rfl ?_
        exact k_X5_goOnFrom_p131 h0 zhk3 _ _ _ _ _ _ _ _ _ h
def w_X5_goOnFrom_p3_b (post : am_I → am_N → Prop) (zk3 : Int32 → Int32 → Int32 → Int32 → am_I → am_N → Prop) (l1 : Int32) (l2 : Int32) (l3 : Int32) (l4 : Int32) (M : am_I) (N : am_N) : Prop :=
  ((4 ≤ l4 → post M N) ∧ (¬ 4 ≤ l4 → w_X11_beside l2 l4 M N (fun zr1 zM2 zN3 => ((zr1 < 0 → zk3 l1 l2 l3 (l4 + 1) zM2 zN3) ∧ (¬ zr1 < 0 → vp_in zr1 64 ∧ ((¬ (zM2 (0, 0, 5) zr1.toNatClampNeg) = 0 → vp_in (l1 + l2) 512 ∧ vp_in zr1 64 ∧ ∀ zv4 : Int32, zv4 = (zM2 (0, 0, 3) (l1 + l2).toNatClampNeg) + (zM2 (0, 0, 5) zr1.toNatClampNeg) → ((¬ l2 = l3 → vp_in (l1 + l2) 512 ∧ w_X5_goOnFrom_p71 post zk3 l1 l2 l3 l4 zr1 zv4 (zM2 (0, 0, 4) (l1 + l2).toNatClampNeg) zM2 zN3) ∧ (l2 = l3 → w_X5_goOnFrom_p71 post zk3 l1 l2 l3 l4 zr1 zv4 zr1 zM2 zN3))) ∧ ((zM2 (0, 0, 5) zr1.toNatClampNeg) = 0 → zk3 l1 l2 l3 (l4 + 1) zM2 zN3)))))))
noncomputable def w_X5_goOnFrom_p3 (post : am_I → am_N → Prop) (n : Nat) : Int32 → Int32 → Int32 → Int32 → am_I → am_N → Prop :=
  Nat.rec (motive := fun _ => Int32 → Int32 → Int32 → Int32 → am_I → am_N → Prop) (fun _ _ _ _ _ _ => False) (fun _ zk => w_X5_goOnFrom_p3_b post zk) n
theorem w_X5_goOnFrom_p3_s (post : am_I → am_N → Prop) (n : Nat) (l1 : Int32) (l2 : Int32) (l3 : Int32) (l4 : Int32) (M : am_I) (N : am_N) : w_X5_goOnFrom_p3 post (n + 1) l1 l2 l3 l4 M N = w_X5_goOnFrom_p3_b post (w_X5_goOnFrom_p3 post n) l1 l2 l3 l4 M N := rfl
set_option maxRecDepth 10000 in
theorem k_X5_goOnFrom_p3 {d : Nat} {dm : List am_C} (h0 : am_d0 dm) {post : am_I → am_N → Prop} : ∀ (n : Nat) (l1 : Int32) (l2 : Int32) (l3 : Int32) (l4 : Int32) (M : am_I) (N : am_N), w_X5_goOnFrom_p3 post n l1 l2 l3 l4 M N → jg (d + 2) mX5_goOnFrom dm 3 [(0, .inr (.inr (0, 0, 2))), (1, .inl l1), (2, .inl l2), (3, .inl l3), (4, .inl l4)] [] M N (am_pv post) := by
  intro n
  induction n with
  | zero => intro l1 l2 l3 l4 M N h; exact h.elim
  | succ n zih =>
    intro l1 l2 l3 l4 M N h
    replace h : w_X5_goOnFrom_p3_b post (w_X5_goOnFrom_p3 post n) l1 l2 l3 l4 M N := h
    refine j_iload 4 dX5_goOnFrom_3 rfl ?_
    refine j_iconst (v := 4) dX5_goOnFrom_5 (by decide) ?_
    refine j_icmp_ge (tgt := 199) dX5_goOnFrom_6 (by decide) (fun hc => ?_) (fun hc => ?_)
    · replace h := h.1 hc
      exact j_vret dX5_goOnFrom_199 rfl ⟨rfl, h⟩
    · replace h := h.2 hc
      refine j_iload_n 2 dX5_goOnFrom_9 rfl ?_
      refine j_iload 4 dX5_goOnFrom_10 rfl ?_
      refine j_invS (As := [.inl l2, .inl l4]) dX5_goOnFrom_12 msRX5_74 mbX11_beside rfl rfl (Nat.le_of_ble_eq_true rfl) (Nat.le_of_ble_eq_true rfl) (by omega) (k_X11_beside (d := d + 0)  h) ?_
      rintro _ zM2 zN3 ⟨zr1, rfl, h⟩
      refine j_istore dX5_goOnFrom_15 (by decide) rfl ?_
      refine j_iload 0 dX5_goOnFrom_17 rfl ?_
      refine j_if_lt (tgt := 193) dX5_goOnFrom_19 (by decide) (fun hc => ?_) (fun hc => ?_)
      · replace h := h.1 hc
        refine j_iinc 5 dX5_goOnFrom_193 rfl rfl (by decide) rfl ?_
        refine j_goto (tgt := 3) dX5_goOnFrom_196 (by decide) ?_
        refine j_sub [2, 3, 4, 5, 0] rfl ?_
        exact zih _ _ _ _ _ _ h
      · replace h := h.2 hc
        refine j_aload_n 1 dX5_goOnFrom_22 rfl ?_
        refine j_getR (b := (0, 0, 5)) dX5_goOnFrom_23 fsRX5_18 (h0 2 (by decide)) rfl rfl ?_
        refine j_iload 0 dX5_goOnFrom_26 rfl ?_
        obtain ⟨hq, h⟩ := h
        refine j_iald dX5_goOnFrom_28 (h0 5 (by decide)) rfl hq ?_
        refine j_if_ne (tgt := 35) dX5_goOnFrom_29 (by decide) (fun hc => ?_) (fun hc => ?_)
        · replace h := h.1 hc
          refine j_aload_n 1 dX5_goOnFrom_35 rfl ?_
          refine j_getR (b := (0, 0, 3)) dX5_goOnFrom_36 fsRX5_9 (h0 2 (by decide)) rfl rfl ?_
          refine j_iload_n 2 dX5_goOnFrom_39 rfl ?_
          refine j_iload_n 3 dX5_goOnFrom_40 rfl ?_
          refine j_iadd dX5_goOnFrom_41 ?_
          obtain ⟨hq, h⟩ := h
          refine j_iald dX5_goOnFrom_42 (h0 3 (by decide)) rfl hq ?_
          refine j_aload_n 1 dX5_goOnFrom_43 rfl ?_
          refine j_getR (b := (0, 0, 5)) dX5_goOnFrom_44 fsRX5_18 (h0 2 (by decide)) rfl rfl ?_
          refine j_iload 0 dX5_goOnFrom_47 rfl ?_
          obtain ⟨hq, h⟩ := h
          refine j_iald dX5_goOnFrom_49 (h0 5 (by decide)) rfl hq ?_
          refine j_iadd dX5_goOnFrom_50 ?_
          refine j_topi (fun zv4 hzv4 => ?_)
          replace h := h zv4 hzv4
          refine j_istore dX5_goOnFrom_51 (by decide) rfl ?_
          refine j_iload_n 4 dX5_goOnFrom_53 rfl ?_
          refine j_iload_n 5 dX5_goOnFrom_54 rfl ?_
          refine j_icmp_ne (tgt := 63) dX5_goOnFrom_55 (by decide) (fun hc => ?_) (fun hc => ?_)
          · replace h := h.1 hc
            refine j_aload_n 2 dX5_goOnFrom_63 rfl ?_
            refine j_getR (b := (0, 0, 4)) dX5_goOnFrom_64 fsRX5_15 (h0 2 (by decide)) rfl rfl ?_
            refine j_iload_n 3 dX5_goOnFrom_67 rfl ?_
            refine j_iload_n 4 dX5_goOnFrom_68 rfl ?_
            refine j_iadd dX5_goOnFrom_69 ?_
            obtain ⟨hq, h⟩ := h
            refine j_iald dX5_goOnFrom_70 (h0 4 (by decide)) rfl hq ?_
            refine j_sub [2, 3, 4, 5, 6, 1, 0] rfl ?_
            exact k_X5_goOnFrom_p71 h0 zih _ _ _ _ _ _ _ _ _ h
          · replace h := h.2 hc
            refine j_iload 1 dX5_goOnFrom_58 rfl ?_
            refine j_goto (tgt := 71) dX5_goOnFrom_60 (by decide) ?_
            refine j_sub [2, 3, 4, 5, 6, 1, 0] rfl ?_
            exact k_X5_goOnFrom_p71 h0 zih _ _ _ _ _ _ _ _ _ h
        · replace h := h.2 hc
          refine j_goto (tgt := 193) dX5_goOnFrom_32 (by decide) ?_
          refine j_iinc 5 dX5_goOnFrom_193 rfl rfl (by decide) rfl ?_
          refine j_goto (tgt := 3) dX5_goOnFrom_196 (by decide) ?_
          refine j_sub [2, 3, 4, 5, 0] rfl ?_
          exact zih _ _ _ _ _ _ h
def w_X5_goOnFrom (a1 : Int32) (a2 : Int32) (a3 : Int32) (M : am_I) (N : am_N) (post : am_I → am_N → Prop) : Prop :=
  ∃ n, w_X5_goOnFrom_p3 post n a1 a2 a3 0 M N
set_option maxRecDepth 10000 in
theorem k_X5_goOnFrom {d : Nat} {dm : List am_C} (h0 : am_d0 dm) {a1 : Int32} {a2 : Int32} {a3 : Int32} {M : am_I} {N : am_N} {post : am_I → am_N → Prop} (h : w_X5_goOnFrom a1 a2 a3 M N post) : jg (d + 2) mX5_goOnFrom dm 0 [(0, .inr (.inr (0, 0, 2))), (1, .inl a1), (2, .inl a2), (3, .inl a3)] [] M N (am_pv post) := by
  refine j_iconst (v := 0) dX5_goOnFrom_0 (by decide) ?_
  refine j_istore dX5_goOnFrom_1 (by decide) rfl ?_
  refine j_sub [1, 2, 3, 4, 0] rfl ?_
  obtain ⟨n, h⟩ := h
  exact k_X5_goOnFrom_p3 h0 n _ _ _ _ _ _ h
def w_X5_nearestBeside_p5_b (post : Int32 → am_I → am_N → Prop) (zk5 : Int32 → Int32 → Int32 → Int32 → am_I → am_N → Prop) (l1 : Int32) (l2 : Int32) (l3 : Int32) (l4 : Int32) (M : am_I) (N : am_N) : Prop :=
  ((4 ≤ l4 → post l3 M N) ∧ (¬ 4 ≤ l4 → w_X11_beside l2 l4 M N (fun zr1 zM2 zN3 => w_X5_hasWay l1 zr1 zM2 zN3 (fun zr4 zM5 zN6 => ((zr4 = 0 → zk5 l1 l2 l3 (l4 + 1) zM5 zN6) ∧ (¬ zr4 = 0 → ((l3 < 0 → zk5 l1 l2 zr1 (l4 + 1) zM5 zN6) ∧ (¬ l3 < 0 → w_X5_isNearer (l1 * 64) zr1 l3 zM5 zN6 (fun zr7 zM8 zN9 => ((zr7 = 0 → zk5 l1 l2 l3 (l4 + 1) zM8 zN9) ∧ (¬ zr7 = 0 → zk5 l1 l2 zr1 (l4 + 1) zM8 zN9)))))))))))
noncomputable def w_X5_nearestBeside_p5 (post : Int32 → am_I → am_N → Prop) (n : Nat) : Int32 → Int32 → Int32 → Int32 → am_I → am_N → Prop :=
  Nat.rec (motive := fun _ => Int32 → Int32 → Int32 → Int32 → am_I → am_N → Prop) (fun _ _ _ _ _ _ => False) (fun _ zk => w_X5_nearestBeside_p5_b post zk) n
theorem w_X5_nearestBeside_p5_s (post : Int32 → am_I → am_N → Prop) (n : Nat) (l1 : Int32) (l2 : Int32) (l3 : Int32) (l4 : Int32) (M : am_I) (N : am_N) : w_X5_nearestBeside_p5 post (n + 1) l1 l2 l3 l4 M N = w_X5_nearestBeside_p5_b post (w_X5_nearestBeside_p5 post n) l1 l2 l3 l4 M N := rfl
set_option maxRecDepth 10000 in
theorem k_X5_nearestBeside_p5 {d : Nat} {dm : List am_C} (h0 : am_d0 dm) {post : Int32 → am_I → am_N → Prop} : ∀ (n : Nat) (l1 : Int32) (l2 : Int32) (l3 : Int32) (l4 : Int32) (M : am_I) (N : am_N), w_X5_nearestBeside_p5 post n l1 l2 l3 l4 M N → jg (d + 2) mX5_nearestBeside dm 5 [(0, .inr (.inr (0, 0, 2))), (1, .inl l1), (2, .inl l2), (3, .inl l3), (4, .inl l4)] [] M N (am_pi post) := by
  intro n
  induction n with
  | zero => intro l1 l2 l3 l4 M N h; exact h.elim
  | succ n zih =>
    intro l1 l2 l3 l4 M N h
    replace h : w_X5_nearestBeside_p5_b post (w_X5_nearestBeside_p5 post n) l1 l2 l3 l4 M N := h
    refine j_iload 4 dX5_nearestBeside_5 rfl ?_
    refine j_iconst (v := 4) dX5_nearestBeside_7 (by decide) ?_
    refine j_icmp_ge (tgt := 56) dX5_nearestBeside_8 (by decide) (fun hc => ?_) (fun hc => ?_)
    · replace h := h.1 hc
      refine j_iload_n 3 dX5_nearestBeside_56 rfl ?_
      exact j_iret dX5_nearestBeside_57 rfl ⟨_, rfl, h⟩
    · replace h := h.2 hc
      refine j_iload_n 2 dX5_nearestBeside_11 rfl ?_
      refine j_iload 4 dX5_nearestBeside_12 rfl ?_
      refine j_invS (As := [.inl l2, .inl l4]) dX5_nearestBeside_14 msRX5_74 mbX11_beside rfl rfl (Nat.le_of_ble_eq_true rfl) (Nat.le_of_ble_eq_true rfl) (by omega) (k_X11_beside (d := d + 0)  h) ?_
      rintro _ zM2 zN3 ⟨zr1, rfl, h⟩
      refine j_istore dX5_nearestBeside_17 (by decide) rfl ?_
      refine j_aload_n 1 dX5_nearestBeside_19 rfl ?_
      refine j_iload_n 2 dX5_nearestBeside_20 rfl ?_
      refine j_iload 0 dX5_nearestBeside_21 rfl ?_
      refine j_invV (As := [.inl l1, .inl zr1]) dX5_nearestBeside_23 msRX5_82 mbX5_hasWay rfl rfl (Nat.le_of_ble_eq_true rfl) (Nat.le_of_ble_eq_true rfl) (by omega) (h0 2 (by decide)) rfl rfl (k_X5_hasWay (d := d + 0) h0 h) ?_
      rintro _ zM5 zN6 ⟨zr4, rfl, h⟩
      refine j_if_eq (tgt := 50) dX5_nearestBeside_26 (by decide) (fun hc => ?_) (fun hc => ?_)
      · replace h := h.1 hc
        refine j_iinc 5 dX5_nearestBeside_50 rfl rfl (by decide) rfl ?_
        refine j_goto (tgt := 5) dX5_nearestBeside_53 (by decide) ?_
        refine j_sub [2, 3, 4, 5, 0] rfl ?_
        exact zih _ _ _ _ _ _ h
      · replace h := h.2 hc
        refine j_iload_n 4 dX5_nearestBeside_29 rfl ?_
        refine j_if_lt (tgt := 47) dX5_nearestBeside_30 (by decide) (fun hc => ?_) (fun hc => ?_)
        · replace h := h.1 hc
          refine j_iload 0 dX5_nearestBeside_47 rfl ?_
          refine j_istore_n dX5_nearestBeside_49 (by decide) rfl ?_
          refine j_iinc 5 dX5_nearestBeside_50 rfl rfl (by decide) rfl ?_
          refine j_goto (tgt := 5) dX5_nearestBeside_53 (by decide) ?_
          refine j_sub [3, 4, 5, 1, 0] rfl ?_
          exact zih _ _ _ _ _ _ h
        · replace h := h.2 hc
          refine j_aload_n 1 dX5_nearestBeside_33 rfl ?_
          refine j_iload_n 2 dX5_nearestBeside_34 rfl ?_
          refine j_bipush (v := 64) dX5_nearestBeside_35 (by decide) ?_
          refine j_imul dX5_nearestBeside_37 ?_
          refine j_iload 0 dX5_nearestBeside_38 rfl ?_
          refine j_iload_n 4 dX5_nearestBeside_40 rfl ?_
          refine j_invV (As := [.inl (l1 * 64), .inl zr1, .inl l3]) dX5_nearestBeside_41 msRX5_86 mbX5_isNearer rfl rfl (Nat.le_of_ble_eq_true rfl) (Nat.le_of_ble_eq_true rfl) (by omega) (h0 2 (by decide)) rfl rfl (k_X5_isNearer (d := d + 0) h0 h) ?_
          rintro _ zM8 zN9 ⟨zr7, rfl, h⟩
          refine j_if_eq (tgt := 50) dX5_nearestBeside_44 (by decide) (fun hc => ?_) (fun hc => ?_)
          · replace h := h.1 hc
            refine j_iinc 5 dX5_nearestBeside_50 rfl rfl (by decide) rfl ?_
            refine j_goto (tgt := 5) dX5_nearestBeside_53 (by decide) ?_
            refine j_sub [2, 3, 4, 5, 0] rfl ?_
            exact zih _ _ _ _ _ _ h
          · replace h := h.2 hc
            refine j_iload 0 dX5_nearestBeside_47 rfl ?_
            refine j_istore_n dX5_nearestBeside_49 (by decide) rfl ?_
            refine j_iinc 5 dX5_nearestBeside_50 rfl rfl (by decide) rfl ?_
            refine j_goto (tgt := 5) dX5_nearestBeside_53 (by decide) ?_
            refine j_sub [3, 4, 5, 1, 0] rfl ?_
            exact zih _ _ _ _ _ _ h
def w_X5_nearestBeside (a1 : Int32) (a2 : Int32) (M : am_I) (N : am_N) (post : Int32 → am_I → am_N → Prop) : Prop :=
  ∃ n, w_X5_nearestBeside_p5 post n a1 a2 (-1) 0 M N
set_option maxRecDepth 10000 in
theorem k_X5_nearestBeside {d : Nat} {dm : List am_C} (h0 : am_d0 dm) {a1 : Int32} {a2 : Int32} {M : am_I} {N : am_N} {post : Int32 → am_I → am_N → Prop} (h : w_X5_nearestBeside a1 a2 M N post) : jg (d + 2) mX5_nearestBeside dm 0 [(0, .inr (.inr (0, 0, 2))), (1, .inl a1), (2, .inl a2)] [] M N (am_pi post) := by
  refine j_iconst (v := (-1)) dX5_nearestBeside_0 (by decide) ?_
  refine j_istore_n dX5_nearestBeside_1 (by decide) rfl ?_
  refine j_iconst (v := 0) dX5_nearestBeside_2 (by decide) ?_
  refine j_istore dX5_nearestBeside_3 (by decide) rfl ?_
  refine j_sub [2, 3, 4, 1, 0] rfl ?_
  obtain ⟨n, h⟩ := h
  exact k_X5_nearestBeside_p5 h0 n _ _ _ _ _ _ h
def w_X5_search_p184_b (b : Nat) (post : am_I → am_N → Prop) (zk184 : Int32 → Int32 → Int32 → am_I → am_N → Prop) (l6 : Int32) (l8 : Int32) (l9 : Int32) (M : am_I) (N : am_N) : Prop :=
  ((64 ≤ l9 → post M N) ∧ (¬ 64 ≤ l9 → (((M (0, 0, 2) 4) ≤ 0 → post M N) ∧ (¬ (M (0, 0, 2) 4) ≤ 0 → w_X5_takeNearest l6 M N (fun zr1 zM2 zN3 => w_X5_goOnFrom l6 zr1 l8 zM2 zN3 (fun zM4 zN5 => zk184 l6 l8 (l9 + 1) zM4 zN5))))))
noncomputable def w_X5_search_p184 (b : Nat) (post : am_I → am_N → Prop) (n : Nat) : Int32 → Int32 → Int32 → am_I → am_N → Prop :=
  Nat.rec (motive := fun _ => Int32 → Int32 → Int32 → am_I → am_N → Prop) (fun _ _ _ _ _ => False) (fun _ zk => w_X5_search_p184_b b post zk) n
theorem w_X5_search_p184_s (b : Nat) (post : am_I → am_N → Prop) (n : Nat) (l6 : Int32) (l8 : Int32) (l9 : Int32) (M : am_I) (N : am_N) : w_X5_search_p184 b post (n + 1) l6 l8 l9 M N = w_X5_search_p184_b b post (w_X5_search_p184 b post n) l6 l8 l9 M N := rfl
set_option maxRecDepth 10000 in
theorem k_X5_search_p184 {d : Nat} {dm : List am_C} {b : Nat} (h0 : am_d0 dm) (h1b : am_d1 dm b) (h2 : am_d2 dm) {post : am_I → am_N → Prop} : ∀ (n : Nat) (l6 : Int32) (l8 : Int32) (l9 : Int32) (M : am_I) (N : am_N), w_X5_search_p184 b post n l6 l8 l9 M N → jg (d + 3) mX5_search dm 184 [(0, .inr (.inr (0, 0, 2))), (6, .inl l6), (8, .inl l8), (9, .inl l9)] [] M N (am_pv post) := by
  intro n
  induction n with
  | zero => intro l6 l8 l9 M N h; exact h.elim
  | succ n zih =>
    intro l6 l8 l9 M N h
    replace h : w_X5_search_p184_b b post (w_X5_search_p184 b post n) l6 l8 l9 M N := h
    refine j_iload 3 dX5_search_184 rfl ?_
    refine j_bipush (v := 64) dX5_search_186 (by decide) ?_
    refine j_icmp_ge (tgt := 218) dX5_search_188 (by decide) (fun hc => ?_) (fun hc => ?_)
    · replace h := h.1 hc
      exact j_vret dX5_search_218 rfl ⟨rfl, h⟩
    · replace h := h.2 hc
      refine j_aload_n 0 dX5_search_191 rfl ?_
      refine j_getI dX5_search_192 fsRX5_62 (h0 2 (by decide)) rfl ?_
      refine j_if_le (tgt := 218) dX5_search_195 (by decide) (fun hc => ?_) (fun hc => ?_)
      · replace h := h.1 hc
        exact j_vret dX5_search_218 rfl ⟨rfl, h⟩
      · replace h := h.2 hc
        refine j_aload_n 0 dX5_search_198 rfl ?_
        refine j_iload 1 dX5_search_199 rfl ?_
        refine j_aload_n 0 dX5_search_201 rfl ?_
        refine j_iload 1 dX5_search_202 rfl ?_
        refine j_invV (As := [.inl l6]) dX5_search_204 msRX5_66 mbX5_takeNearest rfl rfl (Nat.le_of_ble_eq_true rfl) (Nat.le_of_ble_eq_true rfl) (by omega) (h0 2 (by decide)) rfl rfl (k_X5_takeNearest (d := d + 1) h0 h) ?_
        rintro _ zM2 zN3 ⟨zr1, rfl, h⟩
        refine j_iload 2 dX5_search_207 rfl ?_
        refine j_invV (As := [.inl l6, .inl zr1, .inl l8]) dX5_search_209 msRX5_70 mbX5_goOnFrom rfl rfl (Nat.le_of_ble_eq_true rfl) (Nat.le_of_ble_eq_true rfl) (by omega) (h0 2 (by decide)) rfl rfl (k_X5_goOnFrom (d := d + 0) h0 h) ?_
        rintro _ zM4 zN5 ⟨rfl, h⟩
        refine j_iinc 3 dX5_search_212 rfl rfl (by decide) rfl ?_
        refine j_goto (tgt := 184) dX5_search_215 (by decide) ?_
        refine j_sub [1, 2, 3, 0] rfl ?_
        exact zih _ _ _ _ _ h
def w_X5_search_p96 (b : Nat) (post : am_I → am_N → Prop) (zk28 : Int32 → Int32 → Int32 → Int32 → Int32 → am_I → am_N → Prop) (l1 : Int32) (l5 : Int32) (l6 : Int32) (l7 : Int32) (l8 : Int32) (l9 : Int32) (s0 : Int32) (M : am_I) (N : am_N) : Prop :=
  ((s0 = 0 → vp_in l8 64 ∧ zk28 l1 l5 l6 l7 (l8 + 1) (am_u M (0, 0, 5) l8.toNatClampNeg ((l9 * 128) + 1)) N) ∧ (¬ s0 = 0 → vp_in l8 64 ∧ zk28 l1 l5 l6 l7 (l8 + 1) (am_u M (0, 0, 5) l8.toNatClampNeg 0) N))
set_option maxRecDepth 10000 in
theorem k_X5_search_p96 {d : Nat} {dm : List am_C} {b : Nat} (h0 : am_d0 dm) (h1b : am_d1 dm b) (h2 : am_d2 dm) {post : am_I → am_N → Prop} {zk28 : Int32 → Int32 → Int32 → Int32 → Int32 → am_I → am_N → Prop} (zhk28 : ∀ (l1 : Int32) (l5 : Int32) (l6 : Int32) (l7 : Int32) (l8 : Int32) (M : am_I) (N : am_N), zk28 l1 l5 l6 l7 l8 M N → jg (d + 3) mX5_search dm 28 [(0, .inr (.inr (0, 0, 2))), (1, .inl l1), (3, .inr (.inr (1, b, 14))), (4, .inr (.inr (1, b, 1))), (5, .inl l5), (6, .inl l6), (7, .inl l7), (8, .inl l8)] [] M N (am_pv post)) (l1 : Int32) (l5 : Int32) (l6 : Int32) (l7 : Int32) (l8 : Int32) (l9 : Int32) (s0 : Int32) (M : am_I) (N : am_N) (h : w_X5_search_p96 b post zk28 l1 l5 l6 l7 l8 l9 s0 M N) : jg (d + 3) mX5_search dm 96 [(0, .inr (.inr (0, 0, 2))), (1, .inl l1), (3, .inr (.inr (1, b, 14))), (4, .inr (.inr (1, b, 1))), (5, .inl l5), (6, .inl l6), (7, .inl l7), (8, .inl l8), (9, .inl l9)] [.inl s0] M N (am_pv post) := by
  refine j_istore dX5_search_96 (by decide) rfl ?_
  refine j_aload_n 1 dX5_search_98 rfl ?_
  refine j_getR (b := (0, 0, 5)) dX5_search_99 fsRX5_18 (h0 2 (by decide)) rfl rfl ?_
  refine j_iload 8 dX5_search_102 rfl ?_
  refine j_iload 0 dX5_search_104 rfl ?_
  refine j_if_eq (tgt := 113) dX5_search_106 (by decide) (fun hc => ?_) (fun hc => ?_)
  · replace h := h.1 hc
    refine j_iload 9 dX5_search_113 rfl ?_
    refine j_sipush (v := 128) dX5_search_115 (by decide) ?_
    refine j_imul dX5_search_118 ?_
    refine j_iconst (v := 1) dX5_search_119 (by decide) ?_
    refine j_iadd dX5_search_120 ?_
    obtain ⟨hq, h⟩ := h
    refine j_iast dX5_search_121 (h0 5 (by decide)) rfl hq ?_
    refine j_iinc 8 dX5_search_122 rfl rfl (by decide) rfl ?_
    refine j_goto (tgt := 28) dX5_search_125 (by decide) ?_
    refine j_sub [2, 3, 4, 5, 6, 7, 8, 0] rfl ?_
    exact zhk28 _ _ _ _ _ _ _ h
  · replace h := h.2 hc
    refine j_iconst (v := 0) dX5_search_109 (by decide) ?_
    refine j_goto (tgt := 121) dX5_search_110 (by decide) ?_
    obtain ⟨hq, h⟩ := h
    refine j_iast dX5_search_121 (h0 5 (by decide)) rfl hq ?_
    refine j_iinc 8 dX5_search_122 rfl rfl (by decide) rfl ?_
    refine j_goto (tgt := 28) dX5_search_125 (by decide) ?_
    refine j_sub [2, 3, 4, 5, 6, 7, 8, 0] rfl ?_
    exact zhk28 _ _ _ _ _ _ _ h
def w_X5_search_p28_b (b : Nat) (post : am_I → am_N → Prop) (zk28 : Int32 → Int32 → Int32 → Int32 → Int32 → am_I → am_N → Prop) (l1 : Int32) (l5 : Int32) (l6 : Int32) (l7 : Int32) (l8 : Int32) (M : am_I) (N : am_N) : Prop :=
  ((64 ≤ l8 → vp_in l1 8 ∧ ∀ zv1 : Int32, zv1 = M (1, b, 15) l1.toNatClampNeg → w_X11_isCell zv1 M N (fun zr2 zM3 zN4 => ((¬ zr2 = 0 → vp_in (l6 + zv1) 512 ∧ vp_in (l6 + zv1) 512 ∧ ∃ n, w_X5_search_p184 b post n l6 zv1 0 (am_u (am_u (am_u (am_u zM3 (0, 0, 3) (l6 + zv1).toNatClampNeg 0) (0, 0, 4) (l6 + zv1).toNatClampNeg zv1) (0, 0, 6) 0 zv1) (0, 0, 2) 4 1) zN4) ∧ (zr2 = 0 → post zM3 zN4)))) ∧ (¬ 64 ≤ l8 → vp_in (l6 + l8) 512 ∧ w_X2_heavy b l7 l8 (am_u M (0, 0, 3) (l6 + l8).toNatClampNeg 2000000000) N (fun zr5 zM6 zN7 => vp_in l1 8 ∧ w_X11_bit l8 zM6 zN7 (fun zr8 zM9 zN10 => ((¬ ((zN7 (1, b, 19) l1.toNatClampNeg) &&& zr8) = 0 → w_X5_search_p96 b post zk28 l1 l5 l6 l7 l8 zr5 1 zM9 zN10) ∧ (((zN7 (1, b, 19) l1.toNatClampNeg) &&& zr8) = 0 → vp_in l8 64 ∧ ((((zM9 (1, b, 4) l8.toNatClampNeg) + zr5) ≤ l5 → w_X5_search_p96 b post zk28 l1 l5 l6 l7 l8 zr5 0 zM9 zN10) ∧ (¬ ((zM9 (1, b, 4) l8.toNatClampNeg) + zr5) ≤ l5 → w_X5_search_p96 b post zk28 l1 l5 l6 l7 l8 zr5 1 zM9 zN10))))))))
noncomputable def w_X5_search_p28 (b : Nat) (post : am_I → am_N → Prop) (n : Nat) : Int32 → Int32 → Int32 → Int32 → Int32 → am_I → am_N → Prop :=
  Nat.rec (motive := fun _ => Int32 → Int32 → Int32 → Int32 → Int32 → am_I → am_N → Prop) (fun _ _ _ _ _ _ _ => False) (fun _ zk => w_X5_search_p28_b b post zk) n
theorem w_X5_search_p28_s (b : Nat) (post : am_I → am_N → Prop) (n : Nat) (l1 : Int32) (l5 : Int32) (l6 : Int32) (l7 : Int32) (l8 : Int32) (M : am_I) (N : am_N) : w_X5_search_p28 b post (n + 1) l1 l5 l6 l7 l8 M N = w_X5_search_p28_b b post (w_X5_search_p28 b post n) l1 l5 l6 l7 l8 M N := rfl
set_option maxRecDepth 10000 in
theorem k_X5_search_p28 {d : Nat} {dm : List am_C} {b : Nat} (h0 : am_d0 dm) (h1b : am_d1 dm b) (h2 : am_d2 dm) {post : am_I → am_N → Prop} : ∀ (n : Nat) (l1 : Int32) (l5 : Int32) (l6 : Int32) (l7 : Int32) (l8 : Int32) (M : am_I) (N : am_N), w_X5_search_p28 b post n l1 l5 l6 l7 l8 M N → jg (d + 3) mX5_search dm 28 [(0, .inr (.inr (0, 0, 2))), (1, .inl l1), (3, .inr (.inr (1, b, 14))), (4, .inr (.inr (1, b, 1))), (5, .inl l5), (6, .inl l6), (7, .inl l7), (8, .inl l8)] [] M N (am_pv post) := by
  intro n
  induction n with
  | zero => intro l1 l5 l6 l7 l8 M N h; exact h.elim
  | succ n zih =>
    intro l1 l5 l6 l7 l8 M N h
    replace h : w_X5_search_p28_b b post (w_X5_search_p28 b post n) l1 l5 l6 l7 l8 M N := h
    refine j_iload 7 dX5_search_28 rfl ?_
    refine j_bipush (v := 64) dX5_search_30 (by decide) ?_
    refine j_icmp_ge (tgt := 128) dX5_search_32 (by decide) (fun hc => ?_) (fun hc => ?_)
    · replace h := h.1 hc
      refine j_aload_n 2 dX5_search_128 rfl ?_
      refine j_getR (b := (1, b, 15)) dX5_search_129 fsRX5_55 (h1b 14 (by decide)) rfl rfl ?_
      refine j_iload_n 1 dX5_search_132 rfl ?_
      obtain ⟨hq, h⟩ := h
      refine j_iald dX5_search_133 (h1b 15 (by decide)) rfl hq ?_
      refine j_topi (fun zv1 hzv1 => ?_)
      replace h := h zv1 hzv1
      refine j_istore dX5_search_134 (by decide) rfl ?_
      refine j_iload 0 dX5_search_136 rfl ?_
      refine j_invS (As := [.inl zv1]) dX5_search_138 msRX5_58 mbX11_isCell rfl rfl (Nat.le_of_ble_eq_true rfl) (Nat.le_of_ble_eq_true rfl) (by omega) (k_X11_isCell (d := d + 1)  h) ?_
      rintro _ zM3 zN4 ⟨zr2, rfl, h⟩
      refine j_if_ne (tgt := 145) dX5_search_141 (by decide) (fun hc => ?_) (fun hc => ?_)
      · replace h := h.1 hc
        refine j_aload_n 1 dX5_search_145 rfl ?_
        refine j_getR (b := (0, 0, 3)) dX5_search_146 fsRX5_9 (h0 2 (by decide)) rfl rfl ?_
        refine j_iload 6 dX5_search_149 rfl ?_
        refine j_iload 0 dX5_search_151 rfl ?_
        refine j_iadd dX5_search_153 ?_
        refine j_iconst (v := 0) dX5_search_154 (by decide) ?_
        obtain ⟨hq, h⟩ := h
        refine j_iast dX5_search_155 (h0 3 (by decide)) rfl hq ?_
        refine j_aload_n 1 dX5_search_156 rfl ?_
        refine j_getR (b := (0, 0, 4)) dX5_search_157 fsRX5_15 (h0 2 (by decide)) rfl rfl ?_
        refine j_iload 6 dX5_search_160 rfl ?_
        refine j_iload 0 dX5_search_162 rfl ?_
        refine j_iadd dX5_search_164 ?_
        refine j_iload 0 dX5_search_165 rfl ?_
        obtain ⟨hq, h⟩ := h
        refine j_iast dX5_search_167 (h0 4 (by decide)) rfl hq ?_
        refine j_aload_n 1 dX5_search_168 rfl ?_
        refine j_getR (b := (0, 0, 6)) dX5_search_169 fsRX5_21 (h0 2 (by decide)) rfl rfl ?_
        refine j_iconst (v := 0) dX5_search_172 (by decide) ?_
        refine j_iload 0 dX5_search_173 rfl ?_
        refine j_iast dX5_search_175 (h0 6 (by decide)) rfl (by unfold vp_in; decide) ?_
        refine j_aload_n 1 dX5_search_176 rfl ?_
        refine j_iconst (v := 1) dX5_search_177 (by decide) ?_
        refine j_putI dX5_search_178 fwRX5_62 (h0 2 (by decide)) rfl ?_
        refine j_iconst (v := 0) dX5_search_181 (by decide) ?_
        refine j_istore dX5_search_182 (by decide) rfl ?_
        refine j_sub [2, 7, 1, 0] rfl ?_
        obtain ⟨n, h⟩ := h
        exact k_X5_search_p184 h0 h1b h2 n _ _ _ _ _ h
      · replace h := h.2 hc
        exact j_vret dX5_search_144 rfl ⟨rfl, h⟩
    · replace h := h.2 hc
      refine j_aload_n 0 dX5_search_35 rfl ?_
      refine j_getR (b := (0, 0, 3)) dX5_search_36 fsRX5_9 (h0 2 (by decide)) rfl rfl ?_
      refine j_iload 5 dX5_search_39 rfl ?_
      refine j_iload 7 dX5_search_41 rfl ?_
      refine j_iadd dX5_search_43 ?_
      refine j_ldc (v := 2000000000) dX5_search_44 cw_774 ?_
      obtain ⟨hq, h⟩ := h
      refine j_iast dX5_search_46 (h0 3 (by decide)) rfl hq ?_
      refine j_aload 3 dX5_search_47 rfl ?_
      refine j_iload 6 dX5_search_49 rfl ?_
      refine j_iload 7 dX5_search_51 rfl ?_
      refine j_invV (As := [.inl l7, .inl l8]) dX5_search_53 msRX5_37 mbX2_heavy rfl rfl (Nat.le_of_ble_eq_true rfl) (Nat.le_of_ble_eq_true rfl) (by omega) (h1b 1 (by decide)) rfl rfl (k_X2_heavy (d := d + 1) h1b h) ?_
      rintro _ zM6 zN7 ⟨zr5, rfl, h⟩
      refine j_istore dX5_search_56 (by decide) rfl ?_
      refine j_aload_n 3 dX5_search_58 rfl ?_
      refine j_getR (b := (1, b, 19)) dX5_search_59 fsRX5_42 (h1b 14 (by decide)) rfl rfl ?_
      refine j_iload_n 2 dX5_search_62 rfl ?_
      obtain ⟨hq, h⟩ := h
      refine j_lald dX5_search_63 (h1b 19 (by decide)) rfl hq ?_
      refine j_iload 8 dX5_search_64 rfl ?_
      refine j_invS (As := [.inl l8]) dX5_search_66 msRX5_48 mbX11_bit rfl rfl (Nat.le_of_ble_eq_true rfl) (Nat.le_of_ble_eq_true rfl) (by omega) (k_X11_bit (d := d + 1)  h) ?_
      rintro _ zM9 zN10 ⟨zr8, rfl, h⟩
      refine j_land dX5_search_69 ?_
      refine j_lconst (v := 0) dX5_search_70 (by decide) ?_
      refine j_lcmp_ne (tgt := 91) dX5_search_71 dX5_search_72 (by decide) (fun hc => ?_) (fun hc => ?_)
      · replace h := h.1 hc
        refine j_iconst (v := 1) dX5_search_91 (by decide) ?_
        refine j_goto (tgt := 96) dX5_search_92 (by decide) ?_
        refine j_sub [1, 2, 3, 4, 5, 6, 7, 8, 0] rfl ?_
        exact k_X5_search_p96 h0 h1b h2 zih _ _ _ _ _ _ _ _ _ h
      · replace h := h.2 hc
        refine j_aload 4 dX5_search_75 rfl ?_
        refine j_getR (b := (1, b, 4)) dX5_search_77 fsRX5_52 (h1b 1 (by decide)) rfl rfl ?_
        refine j_iload 8 dX5_search_80 rfl ?_
        obtain ⟨hq, h⟩ := h
        refine j_iald dX5_search_82 (h1b 4 (by decide)) rfl hq ?_
        refine j_iload 0 dX5_search_83 rfl ?_
        refine j_iadd dX5_search_85 ?_
        refine j_iload 5 dX5_search_86 rfl ?_
        refine j_icmp_le (tgt := 95) dX5_search_88 (by decide) (fun hc => ?_) (fun hc => ?_)
        · replace h := h.1 hc
          refine j_iconst (v := 0) dX5_search_95 (by decide) ?_
          refine j_sub [1, 2, 3, 4, 5, 6, 7, 8, 0] rfl ?_
          exact k_X5_search_p96 h0 h1b h2 zih _ _ _ _ _ _ _ _ _ h
        · replace h := h.2 hc
          refine j_iconst (v := 1) dX5_search_91 (by decide) ?_
          refine j_goto (tgt := 96) dX5_search_92 (by decide) ?_
          refine j_sub [1, 2, 3, 4, 5, 6, 7, 8, 0] rfl ?_
          exact k_X5_search_p96 h0 h1b h2 zih _ _ _ _ _ _ _ _ _ h
def w_X5_search (b : Nat) (a1 : Int32) (a2 : Int32) (M : am_I) (N : am_N) (post : am_I → am_N → Prop) : Prop :=
  w_X11_within a1 0 7 M N (fun zr1 zM2 zN3 => ((¬ zr1 = 0 → w_X9_at 2 a1 1 zM2 zN3 (fun zr4 zM5 zN6 => ∃ n, w_X5_search_p28 b post n a1 a2 (a1 * 64) zr4 0 zM5 zN6)) ∧ (zr1 = 0 → post zM2 zN3)))
set_option maxRecDepth 10000 in
theorem k_X5_search {d : Nat} {dm : List am_C} {b : Nat} (h0 : am_d0 dm) (h1b : am_d1 dm b) (h2 : am_d2 dm) {a1 : Int32} {a2 : Int32} {M : am_I} {N : am_N} {post : am_I → am_N → Prop} (h : w_X5_search b a1 a2 M N post) : jg (d + 3) mX5_search dm 0 [(0, .inr (.inr (0, 0, 2))), (1, .inl a1), (2, .inr (.inr (2, 2, 0))), (3, .inr (.inr (1, b, 14))), (4, .inr (.inr (1, b, 1))), (5, .inl a2)] [] M N (am_pv post) := by
  refine j_iload_n 1 dX5_search_0 rfl ?_
  refine j_iconst (v := 0) dX5_search_1 (by decide) ?_
  refine j_bipush (v := 7) dX5_search_2 (by decide) ?_
  refine j_invS (As := [.inl a1, .inl 0, .inl 7]) dX5_search_4 msRX5_24 mbX11_within rfl rfl (Nat.le_of_ble_eq_true rfl) (Nat.le_of_ble_eq_true rfl) (by omega) (k_X11_within (d := d + 1)  h) ?_
  rintro _ zM2 zN3 ⟨zr1, rfl, h⟩
  refine j_if_ne (tgt := 11) dX5_search_7 (by decide) (fun hc => ?_) (fun hc => ?_)
  · replace h := h.1 hc
    refine j_iload_n 1 dX5_search_11 rfl ?_
    refine j_bipush (v := 64) dX5_search_12 (by decide) ?_
    refine j_imul dX5_search_14 ?_
    refine j_istore dX5_search_15 (by decide) rfl ?_
    refine j_aload_n 3 dX5_search_17 rfl ?_
    refine j_iload_n 2 dX5_search_18 rfl ?_
    refine j_iconst (v := 1) dX5_search_19 (by decide) ?_
    refine j_invV (As := [.inl a1, .inl 1]) dX5_search_20 msRX5_30 mbX9_at rfl rfl (Nat.le_of_ble_eq_true rfl) (Nat.le_of_ble_eq_true rfl) (by omega) (h2 2 (by decide) 0 (by decide)) rfl rfl (k_X9_at (d := d + 1) h2 (by decide) h) ?_
    rintro _ zM5 zN6 ⟨zr4, rfl, h⟩
    refine j_istore dX5_search_23 (by decide) rfl ?_
    refine j_iconst (v := 0) dX5_search_25 (by decide) ?_
    refine j_istore dX5_search_26 (by decide) rfl ?_
    refine j_sub [3, 4, 6, 7, 8, 2, 1, 0] rfl ?_
    obtain ⟨n, h⟩ := h
    exact k_X5_search_p28 h0 h1b h2 n _ _ _ _ _ _ _ h
  · replace h := h.2 hc
    exact j_vret dX5_search_10 rfl ⟨rfl, h⟩
