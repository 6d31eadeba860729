/-! ===== methods: 14.fleet ===== -/
theorem dX1_begin_0 : decode mX1_begin.2.1 0 = .ok (.aload_n 0, 1) := by decide +kernel
theorem dX1_begin_1 : decode mX1_begin.2.1 1 = .ok (.getfield 18, 3) := by decide +kernel
theorem dX1_begin_4 : decode mX1_begin.2.1 4 = .ok (.bipush 6, 2) := by decide +kernel
theorem dX1_begin_6 : decode mX1_begin.2.1 6 = .ok (.invokestatic 32, 3) := by decide +kernel
theorem dX1_begin_9 : decode mX1_begin.2.1 9 = .ok (.aload_n 0, 1) := by decide +kernel
theorem dX1_begin_10 : decode mX1_begin.2.1 10 = .ok (.getfield 21, 3) := by decide +kernel
theorem dX1_begin_13 : decode mX1_begin.2.1 13 = .ok (.iconst (-1), 1) := by decide +kernel
theorem dX1_begin_14 : decode mX1_begin.2.1 14 = .ok (.invokestatic 32, 3) := by decide +kernel
theorem dX1_begin_17 : decode mX1_begin.2.1 17 = .ok (.aload_n 0, 1) := by decide +kernel
theorem dX1_begin_18 : decode mX1_begin.2.1 18 = .ok (.getfield 9, 3) := by decide +kernel
theorem dX1_begin_21 : decode mX1_begin.2.1 21 = .ok (.iconst 0, 1) := by decide +kernel
theorem dX1_begin_22 : decode mX1_begin.2.1 22 = .ok (.invokestatic 32, 3) := by decide +kernel
theorem dX1_begin_25 : decode mX1_begin.2.1 25 = .ok (.aload_n 0, 1) := by decide +kernel
theorem dX1_begin_26 : decode mX1_begin.2.1 26 = .ok (.getfield 15, 3) := by decide +kernel
theorem dX1_begin_29 : decode mX1_begin.2.1 29 = .ok (.iconst 0, 1) := by decide +kernel
theorem dX1_begin_30 : decode mX1_begin.2.1 30 = .ok (.invokestatic 32, 3) := by decide +kernel
theorem dX1_begin_33 : decode mX1_begin.2.1 33 = .ok (.aload_n 0, 1) := by decide +kernel
theorem dX1_begin_34 : decode mX1_begin.2.1 34 = .ok (.getfield 24, 3) := by decide +kernel
theorem dX1_begin_37 : decode mX1_begin.2.1 37 = .ok (.lconst 0, 1) := by decide +kernel
theorem dX1_begin_38 : decode mX1_begin.2.1 38 = .ok (.invokestatic 38, 3) := by decide +kernel
theorem dX1_begin_41 : decode mX1_begin.2.1 41 = .ok (.return_, 1) := by decide +kernel
theorem dX1_freeOneStuck_0 : decode mX1_freeOneStuck.2.1 0 = .ok (.iconst 0, 1) := by decide +kernel
theorem dX1_freeOneStuck_1 : decode mX1_freeOneStuck.2.1 1 = .ok (.istore_n 3, 1) := by decide +kernel
theorem dX1_freeOneStuck_2 : decode mX1_freeOneStuck.2.1 2 = .ok (.iload_n 3, 1) := by decide +kernel
theorem dX1_freeOneStuck_3 : decode mX1_freeOneStuck.2.1 3 = .ok (.bipush 8, 2) := by decide +kernel
theorem dX1_freeOneStuck_5 : decode mX1_freeOneStuck.2.1 5 = .ok (.if_icmp .ge 44, 3) := by decide +kernel
theorem dX1_freeOneStuck_8 : decode mX1_freeOneStuck.2.1 8 = .ok (.aload_n 0, 1) := by decide +kernel
theorem dX1_freeOneStuck_9 : decode mX1_freeOneStuck.2.1 9 = .ok (.getfield 18, 3) := by decide +kernel
theorem dX1_freeOneStuck_12 : decode mX1_freeOneStuck.2.1 12 = .ok (.iload_n 3, 1) := by decide +kernel
theorem dX1_freeOneStuck_13 : decode mX1_freeOneStuck.2.1 13 = .ok (.iaload, 1) := by decide +kernel
theorem dX1_freeOneStuck_14 : decode mX1_freeOneStuck.2.1 14 = .ok (.iconst 4, 1) := by decide +kernel
theorem dX1_freeOneStuck_15 : decode mX1_freeOneStuck.2.1 15 = .ok (.if_icmp .ne 28, 3) := by decide +kernel
theorem dX1_freeOneStuck_18 : decode mX1_freeOneStuck.2.1 18 = .ok (.aload_n 0, 1) := by decide +kernel
theorem dX1_freeOneStuck_19 : decode mX1_freeOneStuck.2.1 19 = .ok (.getfield 9, 3) := by decide +kernel
theorem dX1_freeOneStuck_22 : decode mX1_freeOneStuck.2.1 22 = .ok (.iload_n 3, 1) := by decide +kernel
theorem dX1_freeOneStuck_23 : decode mX1_freeOneStuck.2.1 23 = .ok (.iaload, 1) := by decide +kernel
theorem dX1_freeOneStuck_24 : decode mX1_freeOneStuck.2.1 24 = .ok (.iload_n 1, 1) := by decide +kernel
theorem dX1_freeOneStuck_25 : decode mX1_freeOneStuck.2.1 25 = .ok (.if_icmp .ne 18, 3) := by decide +kernel
theorem dX1_freeOneStuck_28 : decode mX1_freeOneStuck.2.1 28 = .ok (.aload_n 0, 1) := by decide +kernel
theorem dX1_freeOneStuck_29 : decode mX1_freeOneStuck.2.1 29 = .ok (.getfield 9, 3) := by decide +kernel
theorem dX1_freeOneStuck_32 : decode mX1_freeOneStuck.2.1 32 = .ok (.iload_n 3, 1) := by decide +kernel
theorem dX1_freeOneStuck_33 : decode mX1_freeOneStuck.2.1 33 = .ok (.iload_n 2, 1) := by decide +kernel
theorem dX1_freeOneStuck_34 : decode mX1_freeOneStuck.2.1 34 = .ok (.iastore, 1) := by decide +kernel
theorem dX1_freeOneStuck_35 : decode mX1_freeOneStuck.2.1 35 = .ok (.aload_n 0, 1) := by decide +kernel
theorem dX1_freeOneStuck_36 : decode mX1_freeOneStuck.2.1 36 = .ok (.getfield 18, 3) := by decide +kernel
theorem dX1_freeOneStuck_39 : decode mX1_freeOneStuck.2.1 39 = .ok (.iload_n 3, 1) := by decide +kernel
theorem dX1_freeOneStuck_40 : decode mX1_freeOneStuck.2.1 40 = .ok (.iconst 0, 1) := by decide +kernel
theorem dX1_freeOneStuck_41 : decode mX1_freeOneStuck.2.1 41 = .ok (.iastore, 1) := by decide +kernel
theorem dX1_freeOneStuck_42 : decode mX1_freeOneStuck.2.1 42 = .ok (.return_, 1) := by decide +kernel
theorem dX1_freeOneStuck_43 : decode mX1_freeOneStuck.2.1 43 = .ok (.iinc 3 1, 3) := by decide +kernel
theorem dX1_freeOneStuck_46 : decode mX1_freeOneStuck.2.1 46 = .ok (.goto (-44), 3) := by decide +kernel
theorem dX1_freeOneStuck_49 : decode mX1_freeOneStuck.2.1 49 = .ok (.return_, 1) := by decide +kernel
theorem dX1_cartsStuck_0 : decode mX1_cartsStuck.2.1 0 = .ok (.iconst 0, 1) := by decide +kernel
theorem dX1_cartsStuck_1 : decode mX1_cartsStuck.2.1 1 = .ok (.istore_n 1, 1) := by decide +kernel
theorem dX1_cartsStuck_2 : decode mX1_cartsStuck.2.1 2 = .ok (.iconst 0, 1) := by decide +kernel
theorem dX1_cartsStuck_3 : decode mX1_cartsStuck.2.1 3 = .ok (.istore_n 2, 1) := by decide +kernel
theorem dX1_cartsStuck_4 : decode mX1_cartsStuck.2.1 4 = .ok (.iload_n 2, 1) := by decide +kernel
theorem dX1_cartsStuck_5 : decode mX1_cartsStuck.2.1 5 = .ok (.bipush 8, 2) := by decide +kernel
theorem dX1_cartsStuck_7 : decode mX1_cartsStuck.2.1 7 = .ok (.if_icmp .ge 22, 3) := by decide +kernel
theorem dX1_cartsStuck_10 : decode mX1_cartsStuck.2.1 10 = .ok (.aload_n 0, 1) := by decide +kernel
theorem dX1_cartsStuck_11 : decode mX1_cartsStuck.2.1 11 = .ok (.getfield 18, 3) := by decide +kernel
theorem dX1_cartsStuck_14 : decode mX1_cartsStuck.2.1 14 = .ok (.iload_n 2, 1) := by decide +kernel
theorem dX1_cartsStuck_15 : decode mX1_cartsStuck.2.1 15 = .ok (.iaload, 1) := by decide +kernel
theorem dX1_cartsStuck_16 : decode mX1_cartsStuck.2.1 16 = .ok (.iconst 4, 1) := by decide +kernel
theorem dX1_cartsStuck_17 : decode mX1_cartsStuck.2.1 17 = .ok (.if_icmp .ne 6, 3) := by decide +kernel
theorem dX1_cartsStuck_20 : decode mX1_cartsStuck.2.1 20 = .ok (.iinc 1 1, 3) := by decide +kernel
theorem dX1_cartsStuck_23 : decode mX1_cartsStuck.2.1 23 = .ok (.iinc 2 1, 3) := by decide +kernel
theorem dX1_cartsStuck_26 : decode mX1_cartsStuck.2.1 26 = .ok (.goto (-22), 3) := by decide +kernel
theorem dX1_cartsStuck_29 : decode mX1_cartsStuck.2.1 29 = .ok (.iload_n 1, 1) := by decide +kernel
theorem dX1_cartsStuck_30 : decode mX1_cartsStuck.2.1 30 = .ok (.ireturn, 1) := by decide +kernel
theorem dX1_isPlace_0 : decode mX1_isPlace.2.1 0 = .ok (.iload_n 0, 1) := by decide +kernel
theorem dX1_isPlace_1 : decode mX1_isPlace.2.1 1 = .ok (.ifCond .lt 13, 3) := by decide +kernel
theorem dX1_isPlace_4 : decode mX1_isPlace.2.1 4 = .ok (.iload_n 0, 1) := by decide +kernel
theorem dX1_isPlace_5 : decode mX1_isPlace.2.1 5 = .ok (.bipush 8, 2) := by decide +kernel
theorem dX1_isPlace_7 : decode mX1_isPlace.2.1 7 = .ok (.if_icmp .ge 7, 3) := by decide +kernel
theorem dX1_isPlace_10 : decode mX1_isPlace.2.1 10 = .ok (.iconst 1, 1) := by decide +kernel
theorem dX1_isPlace_11 : decode mX1_isPlace.2.1 11 = .ok (.goto 4, 3) := by decide +kernel
theorem dX1_isPlace_14 : decode mX1_isPlace.2.1 14 = .ok (.iconst 0, 1) := by decide +kernel
theorem dX1_isPlace_15 : decode mX1_isPlace.2.1 15 = .ok (.ireturn, 1) := by decide +kernel
theorem dX1_bring_0 : decode mX1_bring.2.1 0 = .ok (.iload_n 1, 1) := by decide +kernel
theorem dX1_bring_1 : decode mX1_bring.2.1 1 = .ok (.invokestatic 41, 3) := by decide +kernel
theorem dX1_bring_4 : decode mX1_bring.2.1 4 = .ok (.ifCond .eq 46, 3) := by decide +kernel
theorem dX1_bring_7 : decode mX1_bring.2.1 7 = .ok (.aload_n 0, 1) := by decide +kernel
theorem dX1_bring_8 : decode mX1_bring.2.1 8 = .ok (.getfield 9, 3) := by decide +kernel
theorem dX1_bring_11 : decode mX1_bring.2.1 11 = .ok (.iload_n 1, 1) := by decide +kernel
theorem dX1_bring_12 : decode mX1_bring.2.1 12 = .ok (.aload_n 0, 1) := by decide +kernel
theorem dX1_bring_13 : decode mX1_bring.2.1 13 = .ok (.getfield 28, 3) := by decide +kernel
theorem dX1_bring_16 : decode mX1_bring.2.1 16 = .ok (.getfield 45, 3) := by decide +kernel
theorem dX1_bring_19 : decode mX1_bring.2.1 19 = .ok (.iload_n 1, 1) := by decide +kernel
theorem dX1_bring_20 : decode mX1_bring.2.1 20 = .ok (.iconst 3, 1) := by decide +kernel
theorem dX1_bring_21 : decode mX1_bring.2.1 21 = .ok (.invokevirtual 51, 3) := by decide +kernel
theorem dX1_bring_24 : decode mX1_bring.2.1 24 = .ok (.iastore, 1) := by decide +kernel
theorem dX1_bring_25 : decode mX1_bring.2.1 25 = .ok (.aload_n 0, 1) := by decide +kernel
theorem dX1_bring_26 : decode mX1_bring.2.1 26 = .ok (.getfield 15, 3) := by decide +kernel
theorem dX1_bring_29 : decode mX1_bring.2.1 29 = .ok (.iload_n 1, 1) := by decide +kernel
theorem dX1_bring_30 : decode mX1_bring.2.1 30 = .ok (.aload_n 0, 1) := by decide +kernel
theorem dX1_bring_31 : decode mX1_bring.2.1 31 = .ok (.getfield 28, 3) := by decide +kernel
theorem dX1_bring_34 : decode mX1_bring.2.1 34 = .ok (.getfield 45, 3) := by decide +kernel
theorem dX1_bring_37 : decode mX1_bring.2.1 37 = .ok (.iload_n 1, 1) := by decide +kernel
theorem dX1_bring_38 : decode mX1_bring.2.1 38 = .ok (.iconst 4, 1) := by decide +kernel
theorem dX1_bring_39 : decode mX1_bring.2.1 39 = .ok (.invokevirtual 51, 3) := by decide +kernel
theorem dX1_bring_42 : decode mX1_bring.2.1 42 = .ok (.iastore, 1) := by decide +kernel
theorem dX1_bring_43 : decode mX1_bring.2.1 43 = .ok (.aload_n 0, 1) := by decide +kernel
theorem dX1_bring_44 : decode mX1_bring.2.1 44 = .ok (.getfield 18, 3) := by decide +kernel
theorem dX1_bring_47 : decode mX1_bring.2.1 47 = .ok (.iload_n 1, 1) := by decide +kernel
theorem dX1_bring_48 : decode mX1_bring.2.1 48 = .ok (.iconst 0, 1) := by decide +kernel
theorem dX1_bring_49 : decode mX1_bring.2.1 49 = .ok (.iastore, 1) := by decide +kernel
theorem dX1_bring_50 : decode mX1_bring.2.1 50 = .ok (.return_, 1) := by decide +kernel
theorem dX1_isFlat_0 : decode mX1_isFlat.2.1 0 = .ok (.iload_n 1, 1) := by decide +kernel
theorem dX1_isFlat_1 : decode mX1_isFlat.2.1 1 = .ok (.invokestatic 41, 3) := by decide +kernel
theorem dX1_isFlat_4 : decode mX1_isFlat.2.1 4 = .ok (.ifCond .eq 17, 3) := by decide +kernel
theorem dX1_isFlat_7 : decode mX1_isFlat.2.1 7 = .ok (.aload_n 0, 1) := by decide +kernel
theorem dX1_isFlat_8 : decode mX1_isFlat.2.1 8 = .ok (.getfield 18, 3) := by decide +kernel
theorem dX1_isFlat_11 : decode mX1_isFlat.2.1 11 = .ok (.iload_n 1, 1) := by decide +kernel
theorem dX1_isFlat_12 : decode mX1_isFlat.2.1 12 = .ok (.iaload, 1) := by decide +kernel
theorem dX1_isFlat_13 : decode mX1_isFlat.2.1 13 = .ok (.iconst 5, 1) := by decide +kernel
theorem dX1_isFlat_14 : decode mX1_isFlat.2.1 14 = .ok (.if_icmp .ne 7, 3) := by decide +kernel
theorem dX1_isFlat_17 : decode mX1_isFlat.2.1 17 = .ok (.iconst 1, 1) := by decide +kernel
theorem dX1_isFlat_18 : decode mX1_isFlat.2.1 18 = .ok (.goto 4, 3) := by decide +kernel
theorem dX1_isFlat_21 : decode mX1_isFlat.2.1 21 = .ok (.iconst 0, 1) := by decide +kernel
theorem dX1_isFlat_22 : decode mX1_isFlat.2.1 22 = .ok (.ireturn, 1) := by decide +kernel
theorem dX1_plugIn_0 : decode mX1_plugIn.2.1 0 = .ok (.aload_n 0, 1) := by decide +kernel
theorem dX1_plugIn_1 : decode mX1_plugIn.2.1 1 = .ok (.getfield 28, 3) := by decide +kernel
theorem dX1_plugIn_4 : decode mX1_plugIn.2.1 4 = .ok (.getfield 45, 3) := by decide +kernel
theorem dX1_plugIn_7 : decode mX1_plugIn.2.1 7 = .ok (.iload_n 1, 1) := by decide +kernel
theorem dX1_plugIn_8 : decode mX1_plugIn.2.1 8 = .ok (.iconst 4, 1) := by decide +kernel
theorem dX1_plugIn_9 : decode mX1_plugIn.2.1 9 = .ok (.invokevirtual 51, 3) := by decide +kernel
theorem dX1_plugIn_12 : decode mX1_plugIn.2.1 12 = .ok (.istore_n 2, 1) := by decide +kernel
theorem dX1_plugIn_13 : decode mX1_plugIn.2.1 13 = .ok (.aload_n 0, 1) := by decide +kernel
theorem dX1_plugIn_14 : decode mX1_plugIn.2.1 14 = .ok (.getfield 15, 3) := by decide +kernel
theorem dX1_plugIn_17 : decode mX1_plugIn.2.1 17 = .ok (.iload_n 1, 1) := by decide +kernel
theorem dX1_plugIn_18 : decode mX1_plugIn.2.1 18 = .ok (.iload_n 2, 1) := by decide +kernel
theorem dX1_plugIn_19 : decode mX1_plugIn.2.1 19 = .ok (.aload_n 0, 1) := by decide +kernel
theorem dX1_plugIn_20 : decode mX1_plugIn.2.1 20 = .ok (.getfield 15, 3) := by decide +kernel
theorem dX1_plugIn_23 : decode mX1_plugIn.2.1 23 = .ok (.iload_n 1, 1) := by decide +kernel
theorem dX1_plugIn_24 : decode mX1_plugIn.2.1 24 = .ok (.iaload, 1) := by decide +kernel
theorem dX1_plugIn_25 : decode mX1_plugIn.2.1 25 = .ok (.bipush 10, 2) := by decide +kernel
theorem dX1_plugIn_27 : decode mX1_plugIn.2.1 27 = .ok (.iadd, 1) := by decide +kernel
theorem dX1_plugIn_28 : decode mX1_plugIn.2.1 28 = .ok (.invokestatic 60, 3) := by decide +kernel
theorem dX1_plugIn_31 : decode mX1_plugIn.2.1 31 = .ok (.iastore, 1) := by decide +kernel
theorem dX1_plugIn_32 : decode mX1_plugIn.2.1 32 = .ok (.aload_n 0, 1) := by decide +kernel
theorem dX1_plugIn_33 : decode mX1_plugIn.2.1 33 = .ok (.getfield 18, 3) := by decide +kernel
theorem dX1_plugIn_36 : decode mX1_plugIn.2.1 36 = .ok (.iload_n 1, 1) := by decide +kernel
theorem dX1_plugIn_37 : decode mX1_plugIn.2.1 37 = .ok (.aload_n 0, 1) := by decide +kernel
theorem dX1_plugIn_38 : decode mX1_plugIn.2.1 38 = .ok (.getfield 15, 3) := by decide +kernel
theorem dX1_plugIn_41 : decode mX1_plugIn.2.1 41 = .ok (.iload_n 1, 1) := by decide +kernel
theorem dX1_plugIn_42 : decode mX1_plugIn.2.1 42 = .ok (.iaload, 1) := by decide +kernel
theorem dX1_plugIn_43 : decode mX1_plugIn.2.1 43 = .ok (.iload_n 2, 1) := by decide +kernel
theorem dX1_plugIn_44 : decode mX1_plugIn.2.1 44 = .ok (.if_icmp .ne 7, 3) := by decide +kernel
theorem dX1_plugIn_47 : decode mX1_plugIn.2.1 47 = .ok (.iconst 0, 1) := by decide +kernel
theorem dX1_plugIn_48 : decode mX1_plugIn.2.1 48 = .ok (.goto 4, 3) := by decide +kernel
theorem dX1_plugIn_51 : decode mX1_plugIn.2.1 51 = .ok (.iconst 3, 1) := by decide +kernel
theorem dX1_plugIn_52 : decode mX1_plugIn.2.1 52 = .ok (.iastore, 1) := by decide +kernel
theorem dX1_plugIn_53 : decode mX1_plugIn.2.1 53 = .ok (.return_, 1) := by decide +kernel
theorem dX1_hasPower_0 : decode mX1_hasPower.2.1 0 = .ok (.iconst 4, 1) := by decide +kernel
theorem dX1_hasPower_1 : decode mX1_hasPower.2.1 1 = .ok (.aload_n 0, 1) := by decide +kernel
theorem dX1_hasPower_2 : decode mX1_hasPower.2.1 2 = .ok (.getfield 15, 3) := by decide +kernel
theorem dX1_hasPower_5 : decode mX1_hasPower.2.1 5 = .ok (.iload_n 1, 1) := by decide +kernel
theorem dX1_hasPower_6 : decode mX1_hasPower.2.1 6 = .ok (.iaload, 1) := by decide +kernel
theorem dX1_hasPower_7 : decode mX1_hasPower.2.1 7 = .ok (.imul, 1) := by decide +kernel
theorem dX1_hasPower_8 : decode mX1_hasPower.2.1 8 = .ok (.aload_n 0, 1) := by decide +kernel
theorem dX1_hasPower_9 : decode mX1_hasPower.2.1 9 = .ok (.getfield 28, 3) := by decide +kernel
theorem dX1_hasPower_12 : decode mX1_hasPower.2.1 12 = .ok (.getfield 45, 3) := by decide +kernel
theorem dX1_hasPower_15 : decode mX1_hasPower.2.1 15 = .ok (.iload_n 1, 1) := by decide +kernel
theorem dX1_hasPower_16 : decode mX1_hasPower.2.1 16 = .ok (.iconst 4, 1) := by decide +kernel
theorem dX1_hasPower_17 : decode mX1_hasPower.2.1 17 = .ok (.invokevirtual 51, 3) := by decide +kernel
theorem dX1_hasPower_20 : decode mX1_hasPower.2.1 20 = .ok (.if_icmp .lt 7, 3) := by decide +kernel
theorem dX1_hasPower_23 : decode mX1_hasPower.2.1 23 = .ok (.iconst 1, 1) := by decide +kernel
theorem dX1_hasPower_24 : decode mX1_hasPower.2.1 24 = .ok (.goto 4, 3) := by decide +kernel
theorem dX1_hasPower_27 : decode mX1_hasPower.2.1 27 = .ok (.iconst 0, 1) := by decide +kernel
theorem dX1_hasPower_28 : decode mX1_hasPower.2.1 28 = .ok (.ireturn, 1) := by decide +kernel
theorem dX1_isHome_0 : decode mX1_isHome.2.1 0 = .ok (.aload_n 0, 1) := by decide +kernel
theorem dX1_isHome_1 : decode mX1_isHome.2.1 1 = .ok (.getfield 9, 3) := by decide +kernel
theorem dX1_isHome_4 : decode mX1_isHome.2.1 4 = .ok (.iload_n 1, 1) := by decide +kernel
theorem dX1_isHome_5 : decode mX1_isHome.2.1 5 = .ok (.iaload, 1) := by decide +kernel
theorem dX1_isHome_6 : decode mX1_isHome.2.1 6 = .ok (.aload_n 0, 1) := by decide +kernel
theorem dX1_isHome_7 : decode mX1_isHome.2.1 7 = .ok (.getfield 28, 3) := by decide +kernel
theorem dX1_isHome_10 : decode mX1_isHome.2.1 10 = .ok (.getfield 45, 3) := by decide +kernel
theorem dX1_isHome_13 : decode mX1_isHome.2.1 13 = .ok (.iload_n 1, 1) := by decide +kernel
theorem dX1_isHome_14 : decode mX1_isHome.2.1 14 = .ok (.iconst 3, 1) := by decide +kernel
theorem dX1_isHome_15 : decode mX1_isHome.2.1 15 = .ok (.invokevirtual 51, 3) := by decide +kernel
theorem dX1_isHome_18 : decode mX1_isHome.2.1 18 = .ok (.if_icmp .ne 7, 3) := by decide +kernel
theorem dX1_isHome_21 : decode mX1_isHome.2.1 21 = .ok (.iconst 1, 1) := by decide +kernel
theorem dX1_isHome_22 : decode mX1_isHome.2.1 22 = .ok (.goto 4, 3) := by decide +kernel
theorem dX1_isHome_25 : decode mX1_isHome.2.1 25 = .ok (.iconst 0, 1) := by decide +kernel
theorem dX1_isHome_26 : decode mX1_isHome.2.1 26 = .ok (.ireturn, 1) := by decide +kernel
theorem dX1_factOfCart_0 : decode mX1_factOfCart.2.1 0 = .ok (.iload_n 1, 1) := by decide +kernel
theorem dX1_factOfCart_1 : decode mX1_factOfCart.2.1 1 = .ok (.invokestatic 41, 3) := by decide +kernel
theorem dX1_factOfCart_4 : decode mX1_factOfCart.2.1 4 = .ok (.ifCond .ne 6, 3) := by decide +kernel
theorem dX1_factOfCart_7 : decode mX1_factOfCart.2.1 7 = .ok (.bipush (-2), 2) := by decide +kernel
theorem dX1_factOfCart_9 : decode mX1_factOfCart.2.1 9 = .ok (.ireturn, 1) := by decide +kernel
theorem dX1_factOfCart_10 : decode mX1_factOfCart.2.1 10 = .ok (.iload_n 2, 1) := by decide +kernel
theorem dX1_factOfCart_11 : decode mX1_factOfCart.2.1 11 = .ok (.tableswitch 88 0 5 #[37, 50, 57, 64, 71, 78], 37) := by decide +kernel
theorem dX1_factOfCart_48 : decode mX1_factOfCart.2.1 48 = .ok (.aload_n 0, 1) := by decide +kernel
theorem dX1_factOfCart_49 : decode mX1_factOfCart.2.1 49 = .ok (.getfield 28, 3) := by decide +kernel
theorem dX1_factOfCart_52 : decode mX1_factOfCart.2.1 52 = .ok (.getfield 45, 3) := by decide +kernel
theorem dX1_factOfCart_55 : decode mX1_factOfCart.2.1 55 = .ok (.iload_n 1, 1) := by decide +kernel
theorem dX1_factOfCart_56 : decode mX1_factOfCart.2.1 56 = .ok (.iconst 0, 1) := by decide +kernel
theorem dX1_factOfCart_57 : decode mX1_factOfCart.2.1 57 = .ok (.invokevirtual 51, 3) := by decide +kernel
theorem dX1_factOfCart_60 : decode mX1_factOfCart.2.1 60 = .ok (.ireturn, 1) := by decide +kernel
theorem dX1_factOfCart_61 : decode mX1_factOfCart.2.1 61 = .ok (.aload_n 0, 1) := by decide +kernel
theorem dX1_factOfCart_62 : decode mX1_factOfCart.2.1 62 = .ok (.getfield 9, 3) := by decide +kernel
theorem dX1_factOfCart_65 : decode mX1_factOfCart.2.1 65 = .ok (.iload_n 1, 1) := by decide +kernel
theorem dX1_factOfCart_66 : decode mX1_factOfCart.2.1 66 = .ok (.iaload, 1) := by decide +kernel
theorem dX1_factOfCart_67 : decode mX1_factOfCart.2.1 67 = .ok (.ireturn, 1) := by decide +kernel
theorem dX1_factOfCart_68 : decode mX1_factOfCart.2.1 68 = .ok (.aload_n 0, 1) := by decide +kernel
theorem dX1_factOfCart_69 : decode mX1_factOfCart.2.1 69 = .ok (.getfield 15, 3) := by decide +kernel
theorem dX1_factOfCart_72 : decode mX1_factOfCart.2.1 72 = .ok (.iload_n 1, 1) := by decide +kernel
theorem dX1_factOfCart_73 : decode mX1_factOfCart.2.1 73 = .ok (.iaload, 1) := by decide +kernel
theorem dX1_factOfCart_74 : decode mX1_factOfCart.2.1 74 = .ok (.ireturn, 1) := by decide +kernel
theorem dX1_factOfCart_75 : decode mX1_factOfCart.2.1 75 = .ok (.aload_n 0, 1) := by decide +kernel
theorem dX1_factOfCart_76 : decode mX1_factOfCart.2.1 76 = .ok (.getfield 18, 3) := by decide +kernel
theorem dX1_factOfCart_79 : decode mX1_factOfCart.2.1 79 = .ok (.iload_n 1, 1) := by decide +kernel
theorem dX1_factOfCart_80 : decode mX1_factOfCart.2.1 80 = .ok (.iaload, 1) := by decide +kernel
theorem dX1_factOfCart_81 : decode mX1_factOfCart.2.1 81 = .ok (.ireturn, 1) := by decide +kernel
theorem dX1_factOfCart_82 : decode mX1_factOfCart.2.1 82 = .ok (.aload_n 0, 1) := by decide +kernel
theorem dX1_factOfCart_83 : decode mX1_factOfCart.2.1 83 = .ok (.getfield 21, 3) := by decide +kernel
theorem dX1_factOfCart_86 : decode mX1_factOfCart.2.1 86 = .ok (.iload_n 1, 1) := by decide +kernel
theorem dX1_factOfCart_87 : decode mX1_factOfCart.2.1 87 = .ok (.iaload, 1) := by decide +kernel
theorem dX1_factOfCart_88 : decode mX1_factOfCart.2.1 88 = .ok (.ireturn, 1) := by decide +kernel
theorem dX1_factOfCart_89 : decode mX1_factOfCart.2.1 89 = .ok (.aload_n 0, 1) := by decide +kernel
theorem dX1_factOfCart_90 : decode mX1_factOfCart.2.1 90 = .ok (.getfield 24, 3) := by decide +kernel
theorem dX1_factOfCart_93 : decode mX1_factOfCart.2.1 93 = .ok (.iload_n 1, 1) := by decide +kernel
theorem dX1_factOfCart_94 : decode mX1_factOfCart.2.1 94 = .ok (.laload, 1) := by decide +kernel
theorem dX1_factOfCart_95 : decode mX1_factOfCart.2.1 95 = .ok (.invokestatic 78, 3) := by decide +kernel
theorem dX1_factOfCart_98 : decode mX1_factOfCart.2.1 98 = .ok (.ireturn, 1) := by decide +kernel
theorem dX1_factOfCart_99 : decode mX1_factOfCart.2.1 99 = .ok (.iload_n 2, 1) := by decide +kernel
theorem dX1_factOfCart_100 : decode mX1_factOfCart.2.1 100 = .ok (.bipush 100, 2) := by decide +kernel
theorem dX1_factOfCart_102 : decode mX1_factOfCart.2.1 102 = .ok (.sipush 163, 3) := by decide +kernel
theorem dX1_factOfCart_105 : decode mX1_factOfCart.2.1 105 = .ok (.invokestatic 84, 3) := by decide +kernel
theorem dX1_factOfCart_108 : decode mX1_factOfCart.2.1 108 = .ok (.ifCond .ne 6, 3) := by decide +kernel
theorem dX1_factOfCart_111 : decode mX1_factOfCart.2.1 111 = .ok (.bipush (-2), 2) := by decide +kernel
theorem dX1_factOfCart_113 : decode mX1_factOfCart.2.1 113 = .ok (.ireturn, 1) := by decide +kernel
theorem dX1_factOfCart_114 : decode mX1_factOfCart.2.1 114 = .ok (.aload_n 0, 1) := by decide +kernel
theorem dX1_factOfCart_115 : decode mX1_factOfCart.2.1 115 = .ok (.getfield 24, 3) := by decide +kernel
theorem dX1_factOfCart_118 : decode mX1_factOfCart.2.1 118 = .ok (.iload_n 1, 1) := by decide +kernel
theorem dX1_factOfCart_119 : decode mX1_factOfCart.2.1 119 = .ok (.laload, 1) := by decide +kernel
theorem dX1_factOfCart_120 : decode mX1_factOfCart.2.1 120 = .ok (.iload_n 2, 1) := by decide +kernel
theorem dX1_factOfCart_121 : decode mX1_factOfCart.2.1 121 = .ok (.bipush 100, 2) := by decide +kernel
theorem dX1_factOfCart_123 : decode mX1_factOfCart.2.1 123 = .ok (.isub, 1) := by decide +kernel
theorem dX1_factOfCart_124 : decode mX1_factOfCart.2.1 124 = .ok (.invokestatic 74, 3) := by decide +kernel
theorem dX1_factOfCart_127 : decode mX1_factOfCart.2.1 127 = .ok (.land, 1) := by decide +kernel
theorem dX1_factOfCart_128 : decode mX1_factOfCart.2.1 128 = .ok (.lconst 0, 1) := by decide +kernel
theorem dX1_factOfCart_129 : decode mX1_factOfCart.2.1 129 = .ok (.lcmp, 1) := by decide +kernel
theorem dX1_factOfCart_130 : decode mX1_factOfCart.2.1 130 = .ok (.ifCond .eq 7, 3) := by decide +kernel
theorem dX1_factOfCart_133 : decode mX1_factOfCart.2.1 133 = .ok (.iconst 1, 1) := by decide +kernel
theorem dX1_factOfCart_134 : decode mX1_factOfCart.2.1 134 = .ok (.goto 4, 3) := by decide +kernel
theorem dX1_factOfCart_137 : decode mX1_factOfCart.2.1 137 = .ok (.iconst 0, 1) := by decide +kernel
theorem dX1_factOfCart_138 : decode mX1_factOfCart.2.1 138 = .ok (.ireturn, 1) := by decide +kernel
theorem dX1_refill_0 : decode mX1_refill.2.1 0 = .ok (.aload_n 0, 1) := by decide +kernel
theorem dX1_refill_1 : decode mX1_refill.2.1 1 = .ok (.iload_n 1, 1) := by decide +kernel
theorem dX1_refill_2 : decode mX1_refill.2.1 2 = .ok (.invokevirtual 57, 3) := by decide +kernel
theorem dX1_refill_5 : decode mX1_refill.2.1 5 = .ok (.ifCond .eq 28, 3) := by decide +kernel
theorem dX1_refill_8 : decode mX1_refill.2.1 8 = .ok (.aload_n 0, 1) := by decide +kernel
theorem dX1_refill_9 : decode mX1_refill.2.1 9 = .ok (.getfield 15, 3) := by decide +kernel
theorem dX1_refill_12 : decode mX1_refill.2.1 12 = .ok (.iload_n 1, 1) := by decide +kernel
theorem dX1_refill_13 : decode mX1_refill.2.1 13 = .ok (.aload_n 0, 1) := by decide +kernel
theorem dX1_refill_14 : decode mX1_refill.2.1 14 = .ok (.getfield 28, 3) := by decide +kernel
theorem dX1_refill_17 : decode mX1_refill.2.1 17 = .ok (.getfield 45, 3) := by decide +kernel
theorem dX1_refill_20 : decode mX1_refill.2.1 20 = .ok (.iload_n 1, 1) := by decide +kernel
theorem dX1_refill_21 : decode mX1_refill.2.1 21 = .ok (.iconst 4, 1) := by decide +kernel
theorem dX1_refill_22 : decode mX1_refill.2.1 22 = .ok (.invokevirtual 51, 3) := by decide +kernel
theorem dX1_refill_25 : decode mX1_refill.2.1 25 = .ok (.iastore, 1) := by decide +kernel
theorem dX1_refill_26 : decode mX1_refill.2.1 26 = .ok (.aload_n 0, 1) := by decide +kernel
theorem dX1_refill_27 : decode mX1_refill.2.1 27 = .ok (.getfield 18, 3) := by decide +kernel
theorem dX1_refill_30 : decode mX1_refill.2.1 30 = .ok (.iload_n 1, 1) := by decide +kernel
theorem dX1_refill_31 : decode mX1_refill.2.1 31 = .ok (.iconst 0, 1) := by decide +kernel
theorem dX1_refill_32 : decode mX1_refill.2.1 32 = .ok (.iastore, 1) := by decide +kernel
theorem dX1_refill_33 : decode mX1_refill.2.1 33 = .ok (.return_, 1) := by decide +kernel
theorem dX1_isReady_0 : decode mX1_isReady.2.1 0 = .ok (.aload_n 0, 1) := by decide +kernel
theorem dX1_isReady_1 : decode mX1_isReady.2.1 1 = .ok (.getfield 18, 3) := by decide +kernel
theorem dX1_isReady_4 : decode mX1_isReady.2.1 4 = .ok (.iload_n 1, 1) := by decide +kernel
theorem dX1_isReady_5 : decode mX1_isReady.2.1 5 = .ok (.iaload, 1) := by decide +kernel
theorem dX1_isReady_6 : decode mX1_isReady.2.1 6 = .ok (.ifCond .ne 15, 3) := by decide +kernel
theorem dX1_isReady_9 : decode mX1_isReady.2.1 9 = .ok (.aload_n 0, 1) := by decide +kernel
theorem dX1_isReady_10 : decode mX1_isReady.2.1 10 = .ok (.iload_n 1, 1) := by decide +kernel
theorem dX1_isReady_11 : decode mX1_isReady.2.1 11 = .ok (.invokevirtual 65, 3) := by decide +kernel
theorem dX1_isReady_14 : decode mX1_isReady.2.1 14 = .ok (.ifCond .eq 7, 3) := by decide +kernel
theorem dX1_isReady_17 : decode mX1_isReady.2.1 17 = .ok (.iconst 1, 1) := by decide +kernel
theorem dX1_isReady_18 : decode mX1_isReady.2.1 18 = .ok (.goto 4, 3) := by decide +kernel
theorem dX1_isReady_21 : decode mX1_isReady.2.1 21 = .ok (.iconst 0, 1) := by decide +kernel
theorem dX1_isReady_22 : decode mX1_isReady.2.1 22 = .ok (.ireturn, 1) := by decide +kernel
theorem dX1_readyOnes_0 : decode mX1_readyOnes.2.1 0 = .ok (.iconst 0, 1) := by decide +kernel
theorem dX1_readyOnes_1 : decode mX1_readyOnes.2.1 1 = .ok (.istore_n 1, 1) := by decide +kernel
theorem dX1_readyOnes_2 : decode mX1_readyOnes.2.1 2 = .ok (.iconst 0, 1) := by decide +kernel
theorem dX1_readyOnes_3 : decode mX1_readyOnes.2.1 3 = .ok (.istore_n 2, 1) := by decide +kernel
theorem dX1_readyOnes_4 : decode mX1_readyOnes.2.1 4 = .ok (.iload_n 2, 1) := by decide +kernel
theorem dX1_readyOnes_5 : decode mX1_readyOnes.2.1 5 = .ok (.bipush 8, 2) := by decide +kernel
theorem dX1_readyOnes_7 : decode mX1_readyOnes.2.1 7 = .ok (.if_icmp .ge 23, 3) := by decide +kernel
theorem dX1_readyOnes_10 : decode mX1_readyOnes.2.1 10 = .ok (.aload_n 0, 1) := by decide +kernel
theorem dX1_readyOnes_11 : decode mX1_readyOnes.2.1 11 = .ok (.iload_n 2, 1) := by decide +kernel
theorem dX1_readyOnes_12 : decode mX1_readyOnes.2.1 12 = .ok (.invokevirtual 68, 3) := by decide +kernel
theorem dX1_readyOnes_15 : decode mX1_readyOnes.2.1 15 = .ok (.ifCond .eq 9, 3) := by decide +kernel
theorem dX1_readyOnes_18 : decode mX1_readyOnes.2.1 18 = .ok (.iload_n 1, 1) := by decide +kernel
theorem dX1_readyOnes_19 : decode mX1_readyOnes.2.1 19 = .ok (.iconst 1, 1) := by decide +kernel
theorem dX1_readyOnes_20 : decode mX1_readyOnes.2.1 20 = .ok (.iload_n 2, 1) := by decide +kernel
theorem dX1_readyOnes_21 : decode mX1_readyOnes.2.1 21 = .ok (.ishl, 1) := by decide +kernel
theorem dX1_readyOnes_22 : decode mX1_readyOnes.2.1 22 = .ok (.ior, 1) := by decide +kernel
theorem dX1_readyOnes_23 : decode mX1_readyOnes.2.1 23 = .ok (.istore_n 1, 1) := by decide +kernel
theorem dX1_readyOnes_24 : decode mX1_readyOnes.2.1 24 = .ok (.iinc 2 1, 3) := by decide +kernel
theorem dX1_readyOnes_27 : decode mX1_readyOnes.2.1 27 = .ok (.goto (-23), 3) := by decide +kernel
theorem dX1_readyOnes_30 : decode mX1_readyOnes.2.1 30 = .ok (.iload_n 1, 1) := by decide +kernel
theorem dX1_readyOnes_31 : decode mX1_readyOnes.2.1 31 = .ok (.ireturn, 1) := by decide +kernel
theorem dX1_hearOf_0 : decode mX1_hearOf.2.1 0 = .ok (.iconst 0, 1) := by decide +kernel
theorem dX1_hearOf_1 : decode mX1_hearOf.2.1 1 = .ok (.istore_n 3, 1) := by decide +kernel
theorem dX1_hearOf_2 : decode mX1_hearOf.2.1 2 = .ok (.iload_n 3, 1) := by decide +kernel
theorem dX1_hearOf_3 : decode mX1_hearOf.2.1 3 = .ok (.bipush 8, 2) := by decide +kernel
theorem dX1_hearOf_5 : decode mX1_hearOf.2.1 5 = .ok (.if_icmp .ge 47, 3) := by decide +kernel
theorem dX1_hearOf_8 : decode mX1_hearOf.2.1 8 = .ok (.aload_n 0, 1) := by decide +kernel
theorem dX1_hearOf_9 : decode mX1_hearOf.2.1 9 = .ok (.getfield 18, 3) := by decide +kernel
theorem dX1_hearOf_12 : decode mX1_hearOf.2.1 12 = .ok (.iload_n 3, 1) := by decide +kernel
theorem dX1_hearOf_13 : decode mX1_hearOf.2.1 13 = .ok (.iaload, 1) := by decide +kernel
theorem dX1_hearOf_14 : decode mX1_hearOf.2.1 14 = .ok (.bipush 6, 2) := by decide +kernel
theorem dX1_hearOf_16 : decode mX1_hearOf.2.1 16 = .ok (.if_icmp .eq 30, 3) := by decide +kernel
theorem dX1_hearOf_19 : decode mX1_hearOf.2.1 19 = .ok (.aload_n 0, 1) := by decide +kernel
theorem dX1_hearOf_20 : decode mX1_hearOf.2.1 20 = .ok (.getfield 9, 3) := by decide +kernel
theorem dX1_hearOf_23 : decode mX1_hearOf.2.1 23 = .ok (.iload_n 3, 1) := by decide +kernel
theorem dX1_hearOf_24 : decode mX1_hearOf.2.1 24 = .ok (.iaload, 1) := by decide +kernel
theorem dX1_hearOf_25 : decode mX1_hearOf.2.1 25 = .ok (.iload_n 1, 1) := by decide +kernel
theorem dX1_hearOf_26 : decode mX1_hearOf.2.1 26 = .ok (.invokestatic 71, 3) := by decide +kernel
theorem dX1_hearOf_29 : decode mX1_hearOf.2.1 29 = .ok (.iload_n 2, 1) := by decide +kernel
theorem dX1_hearOf_30 : decode mX1_hearOf.2.1 30 = .ok (.if_icmp .gt 16, 3) := by decide +kernel
theorem dX1_hearOf_33 : decode mX1_hearOf.2.1 33 = .ok (.aload_n 0, 1) := by decide +kernel
theorem dX1_hearOf_34 : decode mX1_hearOf.2.1 34 = .ok (.getfield 24, 3) := by decide +kernel
theorem dX1_hearOf_37 : decode mX1_hearOf.2.1 37 = .ok (.iload_n 3, 1) := by decide +kernel
theorem dX1_hearOf_38 : decode mX1_hearOf.2.1 38 = .ok (.dup2, 1) := by decide +kernel
theorem dX1_hearOf_39 : decode mX1_hearOf.2.1 39 = .ok (.laload, 1) := by decide +kernel
theorem dX1_hearOf_40 : decode mX1_hearOf.2.1 40 = .ok (.iload_n 1, 1) := by decide +kernel
theorem dX1_hearOf_41 : decode mX1_hearOf.2.1 41 = .ok (.invokestatic 74, 3) := by decide +kernel
theorem dX1_hearOf_44 : decode mX1_hearOf.2.1 44 = .ok (.lor, 1) := by decide +kernel
theorem dX1_hearOf_45 : decode mX1_hearOf.2.1 45 = .ok (.lastore, 1) := by decide +kernel
theorem dX1_hearOf_46 : decode mX1_hearOf.2.1 46 = .ok (.iinc 3 1, 3) := by decide +kernel
theorem dX1_hearOf_49 : decode mX1_hearOf.2.1 49 = .ok (.goto (-47), 3) := by decide +kernel
theorem dX1_hearOf_52 : decode mX1_hearOf.2.1 52 = .ok (.return_, 1) := by decide +kernel
def w_X1_begin (b : Nat) (M : am_I) (N : am_N) (post : am_I → am_N → Prop) : Prop :=
  post (am_fill (am_fill (am_fill (am_fill M (1, b, 17) 8 6) (1, b, 18) 8 (-1)) (1, b, 15) 8 0) (1, b, 16) 8 0) (am_fill N (1, b, 19) 8 0)
set_option maxRecDepth 10000 in
theorem k_X1_begin {d : Nat} {dm : List am_C} {b : Nat} (h1b : am_d1 dm b) {M : am_I} {N : am_N} {post : am_I → am_N → Prop} (h : w_X1_begin b M N post) : jg (d + 2) mX1_begin dm 0 [(0, .inr (.inr (1, b, 14)))] [] M N (am_pv post) := by
  refine j_aload_n 0 dX1_begin_0 rfl ?_
  refine j_getR (b := (1, b, 17)) dX1_begin_1 fsRX1_18 (h1b 14 (by decide)) rfl rfl ?_
  refine j_bipush (v := 6) dX1_begin_4 (by decide) ?_
  refine j_invS (As := [.inr (.inr (1, b, 17)), .inl 6]) dX1_begin_6 msRX1_32 mbJ7_fill_53178 rfl rfl (Nat.le_of_ble_eq_true rfl) (Nat.le_of_ble_eq_true rfl) (by omega) (k_J7_fill_53178 (d := d) (h1b 17 (by decide)) rfl (by decide)) ?_
  rintro _ _ _ ⟨rfl, rfl, rfl⟩
  refine j_aload_n 0 dX1_begin_9 rfl ?_
  refine j_getR (b := (1, b, 18)) dX1_begin_10 fsRX1_21 (h1b 14 (by decide)) rfl rfl ?_
  refine j_iconst (v := (-1)) dX1_begin_13 (by decide) ?_
  refine j_invS (As := [.inr (.inr (1, b, 18)), .inl (-1)]) dX1_begin_14 msRX1_32 mbJ7_fill_53178 rfl rfl (Nat.le_of_ble_eq_true rfl) (Nat.le_of_ble_eq_true rfl) (by omega) (k_J7_fill_53178 (d := d) (h1b 18 (by decide)) rfl (by decide)) ?_
  rintro _ _ _ ⟨rfl, rfl, rfl⟩
  refine j_aload_n 0 dX1_begin_17 rfl ?_
  refine j_getR (b := (1, b, 15)) dX1_begin_18 fsRX1_9 (h1b 14 (by decide)) rfl rfl ?_
  refine j_iconst (v := 0) dX1_begin_21 (by decide) ?_
  refine j_invS (As := [.inr (.inr (1, b, 15)), .inl 0]) dX1_begin_22 msRX1_32 mbJ7_fill_53178 rfl rfl (Nat.le_of_ble_eq_true rfl) (Nat.le_of_ble_eq_true rfl) (by omega) (k_J7_fill_53178 (d := d) (h1b 15 (by decide)) rfl (by decide)) ?_
  rintro _ _ _ ⟨rfl, rfl, rfl⟩
  refine j_aload_n 0 dX1_begin_25 rfl ?_
  refine j_getR (b := (1, b, 16)) dX1_begin_26 fsRX1_15 (h1b 14 (by decide)) rfl rfl ?_
  refine j_iconst (v := 0) dX1_begin_29 (by decide) ?_
  refine j_invS (As := [.inr (.inr (1, b, 16)), .inl 0]) dX1_begin_30 msRX1_32 mbJ7_fill_53178 rfl rfl (Nat.le_of_ble_eq_true rfl) (Nat.le_of_ble_eq_true rfl) (by omega) (k_J7_fill_53178 (d := d) (h1b 16 (by decide)) rfl (by decide)) ?_
  rintro _ _ _ ⟨rfl, rfl, rfl⟩
  refine j_aload_n 0 dX1_begin_33 rfl ?_
  refine j_getR (b := (1, b, 19)) dX1_begin_34 fsRX1_24 (h1b 14 (by decide)) rfl rfl ?_
  refine j_lconst (v := 0) dX1_begin_37 (by decide) ?_
  refine j_invS (As := [.inr (.inr (1, b, 19)), .inr (.inl 0)]) dX1_begin_38 msRX1_38 mbJ7_fill_d0a16 rfl rfl (Nat.le_of_ble_eq_true rfl) (Nat.le_of_ble_eq_true rfl) (by omega) (k_J7_fill_d0a16 (d := d) (h1b 19 (by decide)) rfl (by decide)) ?_
  rintro _ _ _ ⟨rfl, rfl, rfl⟩
  exact j_vret dX1_begin_41 rfl ⟨rfl, h⟩
def w_X1_freeOneStuck_p2_b (b : Nat) (post : am_I → am_N → Prop) (zk2 : Int32 → Int32 → Int32 → am_I → am_N → Prop) (l1 : Int32) (l2 : Int32) (l3 : Int32) (M : am_I) (N : am_N) : Prop :=
  ((8 ≤ l3 → post M N) ∧ (¬ 8 ≤ l3 → vp_in l3 8 ∧ ((¬ (M (1, b, 17) l3.toNatClampNeg) = 4 → zk2 l1 l2 (l3 + 1) M N) ∧ ((M (1, b, 17) l3.toNatClampNeg) = 4 → vp_in l3 8 ∧ ((¬ (M (1, b, 15) l3.toNatClampNeg) = l1 → zk2 l1 l2 (l3 + 1) M N) ∧ ((M (1, b, 15) l3.toNatClampNeg) = l1 → vp_in l3 8 ∧ vp_in l3 8 ∧ post (am_u (am_u M (1, b, 15) l3.toNatClampNeg l2) (1, b, 17) l3.toNatClampNeg 0) N))))))
noncomputable def w_X1_freeOneStuck_p2 (b : Nat) (post : am_I → am_N → Prop) (n : Nat) : Int32 → Int32 → Int32 → am_I → am_N → Prop :=
  Nat.rec (motive := fun _ => Int32 → Int32 → Int32 → am_I → am_N → Prop) (fun _ _ _ _ _ => False) (fun _ zk => w_X1_freeOneStuck_p2_b b post zk) n
theorem w_X1_freeOneStuck_p2_s (b : Nat) (post : am_I → am_N → Prop) (n : Nat) (l1 : Int32) (l2 : Int32) (l3 : Int32) (M : am_I) (N : am_N) : w_X1_freeOneStuck_p2 b post (n + 1) l1 l2 l3 M N = w_X1_freeOneStuck_p2_b b post (w_X1_freeOneStuck_p2 b post n) l1 l2 l3 M N := rfl
set_option maxRecDepth 10000 in
theorem k_X1_freeOneStuck_p2 {d : Nat} {dm : List am_C} {b : Nat} (h1b : am_d1 dm b) {post : am_I → am_N → Prop} : ∀ (n : Nat) (l1 : Int32) (l2 : Int32) (l3 : Int32) (M : am_I) (N : am_N), w_X1_freeOneStuck_p2 b post n l1 l2 l3 M N → jg (d + 1) mX1_freeOneStuck dm 2 [(0, .inr (.inr (1, b, 14))), (1, .inl l1), (2, .inl l2), (3, .inl l3)] [] M N (am_pv post) := by
  intro n
  induction n with
  | zero => intro l1 l2 l3 M N h; exact h.elim
  | succ n zih =>
    intro l1 l2 l3 M N h
    replace h : w_X1_freeOneStuck_p2_b b post (w_X1_freeOneStuck_p2 b post n) l1 l2 l3 M N := h
    refine j_iload_n 3 dX1_freeOneStuck_2 rfl ?_
    refine j_bipush (v := 8) dX1_freeOneStuck_3 (by decide) ?_
    refine j_icmp_ge (tgt := 49) dX1_freeOneStuck_5 (by decide) (fun hc => ?_) (fun hc => ?_)
    · replace h := h.1 hc
      exact j_vret dX1_freeOneStuck_49 rfl ⟨rfl, h⟩
    · replace h := h.2 hc
      refine j_aload_n 0 dX1_freeOneStuck_8 rfl ?_
      refine j_getR (b := (1, b, 17)) dX1_freeOneStuck_9 fsRX1_18 (h1b 14 (by decide)) rfl rfl ?_
      refine j_iload_n 3 dX1_freeOneStuck_12 rfl ?_
      obtain ⟨hq, h⟩ := h
      refine j_iald dX1_freeOneStuck_13 (h1b 17 (by decide)) rfl hq ?_
      refine j_iconst (v := 4) dX1_freeOneStuck_14 (by decide) ?_
      refine j_icmp_ne (tgt := 43) dX1_freeOneStuck_15 (by decide) (fun hc => ?_) (fun hc => ?_)
      · replace h := h.1 hc
        refine j_iinc 3 dX1_freeOneStuck_43 rfl rfl (by decide) rfl ?_
        refine j_goto (tgt := 2) dX1_freeOneStuck_46 (by decide) ?_
        refine j_sub [1, 2, 3, 0] rfl ?_
        exact zih _ _ _ _ _ h
      · replace h := h.2 hc
        refine j_aload_n 0 dX1_freeOneStuck_18 rfl ?_
        refine j_getR (b := (1, b, 15)) dX1_freeOneStuck_19 fsRX1_9 (h1b 14 (by decide)) rfl rfl ?_
        refine j_iload_n 3 dX1_freeOneStuck_22 rfl ?_
        obtain ⟨hq, h⟩ := h
        refine j_iald dX1_freeOneStuck_23 (h1b 15 (by decide)) rfl hq ?_
        refine j_iload_n 1 dX1_freeOneStuck_24 rfl ?_
        refine j_icmp_ne (tgt := 43) dX1_freeOneStuck_25 (by decide) (fun hc => ?_) (fun hc => ?_)
        · replace h := h.1 hc
          refine j_iinc 3 dX1_freeOneStuck_43 rfl rfl (by decide) rfl ?_
          refine j_goto (tgt := 2) dX1_freeOneStuck_46 (by decide) ?_
          refine j_sub [1, 2, 3, 0] rfl ?_
          exact zih _ _ _ _ _ h
        · replace h := h.2 hc
          refine j_aload_n 0 dX1_freeOneStuck_28 rfl ?_
          refine j_getR (b := (1, b, 15)) dX1_freeOneStuck_29 fsRX1_9 (h1b 14 (by decide)) rfl rfl ?_
          refine j_iload_n 3 dX1_freeOneStuck_32 rfl ?_
          refine j_iload_n 2 dX1_freeOneStuck_33 rfl ?_
          obtain ⟨hq, h⟩ := h
          refine j_iast dX1_freeOneStuck_34 (h1b 15 (by decide)) rfl hq ?_
          refine j_aload_n 0 dX1_freeOneStuck_35 rfl ?_
          refine j_getR (b := (1, b, 17)) dX1_freeOneStuck_36 fsRX1_18 (h1b 14 (by decide)) rfl rfl ?_
          refine j_iload_n 3 dX1_freeOneStuck_39 rfl ?_
          refine j_iconst (v := 0) dX1_freeOneStuck_40 (by decide) ?_
          obtain ⟨hq, h⟩ := h
          refine j_iast dX1_freeOneStuck_41 (h1b 17 (by decide)) rfl hq ?_
          exact j_vret dX1_freeOneStuck_42 rfl ⟨rfl, h⟩
def w_X1_freeOneStuck (b : Nat) (a1 : Int32) (a2 : Int32) (M : am_I) (N : am_N) (post : am_I → am_N → Prop) : Prop :=
  ∃ n, w_X1_freeOneStuck_p2 b post n a1 a2 0 M N
set_option maxRecDepth 10000 in
theorem k_X1_freeOneStuck {d : Nat} {dm : List am_C} {b : Nat} (h1b : am_d1 dm b) {a1 : Int32} {a2 : Int32} {M : am_I} {N : am_N} {post : am_I → am_N → Prop} (h : w_X1_freeOneStuck b a1 a2 M N post) : jg (d + 1) mX1_freeOneStuck dm 0 [(0, .inr (.inr (1, b, 14))), (1, .inl a1), (2, .inl a2)] [] M N (am_pv post) := by
  refine j_iconst (v := 0) dX1_freeOneStuck_0 (by decide) ?_
  refine j_istore_n dX1_freeOneStuck_1 (by decide) rfl ?_
  refine j_sub [1, 2, 3, 0] rfl ?_
  obtain ⟨n, h⟩ := h
  exact k_X1_freeOneStuck_p2 h1b n _ _ _ _ _ h
def w_X1_cartsStuck_p4_b (b : Nat) (post : Int32 → am_I → am_N → Prop) (zk4 : Int32 → Int32 → am_I → am_N → Prop) (l1 : Int32) (l2 : Int32) (M : am_I) (N : am_N) : Prop :=
  ((8 ≤ l2 → post l1 M N) ∧ (¬ 8 ≤ l2 → vp_in l2 8 ∧ ((¬ (M (1, b, 17) l2.toNatClampNeg) = 4 → zk4 l1 (l2 + 1) M N) ∧ ((M (1, b, 17) l2.toNatClampNeg) = 4 → zk4 (l1 + 1) (l2 + 1) M N))))
noncomputable def w_X1_cartsStuck_p4 (b : Nat) (post : Int32 → am_I → am_N → Prop) (n : Nat) : Int32 → Int32 → am_I → am_N → Prop :=
  Nat.rec (motive := fun _ => Int32 → Int32 → am_I → am_N → Prop) (fun _ _ _ _ => False) (fun _ zk => w_X1_cartsStuck_p4_b b post zk) n
theorem w_X1_cartsStuck_p4_s (b : Nat) (post : Int32 → am_I → am_N → Prop) (n : Nat) (l1 : Int32) (l2 : Int32) (M : am_I) (N : am_N) : w_X1_cartsStuck_p4 b post (n + 1) l1 l2 M N = w_X1_cartsStuck_p4_b b post (w_X1_cartsStuck_p4 b post n) l1 l2 M N := rfl
set_option maxRecDepth 10000 in
theorem k_X1_cartsStuck_p4 {d : Nat} {dm : List am_C} {b : Nat} (h1b : am_d1 dm b) {post : Int32 → am_I → am_N → Prop} : ∀ (n : Nat) (l1 : Int32) (l2 : Int32) (M : am_I) (N : am_N), w_X1_cartsStuck_p4 b post n l1 l2 M N → jg (d + 1) mX1_cartsStuck dm 4 [(0, .inr (.inr (1, b, 14))), (1, .inl l1), (2, .inl l2)] [] M N (am_pi post) := by
  intro n
  induction n with
  | zero => intro l1 l2 M N h; exact h.elim
  | succ n zih =>
    intro l1 l2 M N h
    replace h : w_X1_cartsStuck_p4_b b post (w_X1_cartsStuck_p4 b post n) l1 l2 M N := h
    refine j_iload_n 2 dX1_cartsStuck_4 rfl ?_
    refine j_bipush (v := 8) dX1_cartsStuck_5 (by decide) ?_
    refine j_icmp_ge (tgt := 29) dX1_cartsStuck_7 (by decide) (fun hc => ?_) (fun hc => ?_)
    · replace h := h.1 hc
      refine j_iload_n 1 dX1_cartsStuck_29 rfl ?_
      exact j_iret dX1_cartsStuck_30 rfl ⟨_, rfl, h⟩
    · replace h := h.2 hc
      refine j_aload_n 0 dX1_cartsStuck_10 rfl ?_
      refine j_getR (b := (1, b, 17)) dX1_cartsStuck_11 fsRX1_18 (h1b 14 (by decide)) rfl rfl ?_
      refine j_iload_n 2 dX1_cartsStuck_14 rfl ?_
      obtain ⟨hq, h⟩ := h
      refine j_iald dX1_cartsStuck_15 (h1b 17 (by decide)) rfl hq ?_
      refine j_iconst (v := 4) dX1_cartsStuck_16 (by decide) ?_
      refine j_icmp_ne (tgt := 23) dX1_cartsStuck_17 (by decide) (fun hc => ?_) (fun hc => ?_)
      · replace h := h.1 hc
        refine j_iinc 2 dX1_cartsStuck_23 rfl rfl (by decide) rfl ?_
        refine j_goto (tgt := 4) dX1_cartsStuck_26 (by decide) ?_
        refine j_sub [1, 2, 0] rfl ?_
        exact zih _ _ _ _ h
      · replace h := h.2 hc
        refine j_iinc 1 dX1_cartsStuck_20 rfl rfl (by decide) rfl ?_
        refine j_iinc 2 dX1_cartsStuck_23 rfl rfl (by decide) rfl ?_
        refine j_goto (tgt := 4) dX1_cartsStuck_26 (by decide) ?_
        refine j_sub [2, 1, 0] rfl ?_
        exact zih _ _ _ _ h
def w_X1_cartsStuck (b : Nat) (M : am_I) (N : am_N) (post : Int32 → am_I → am_N → Prop) : Prop :=
  ∃ n, w_X1_cartsStuck_p4 b post n 0 0 M N
set_option maxRecDepth 10000 in
theorem k_X1_cartsStuck {d : Nat} {dm : List am_C} {b : Nat} (h1b : am_d1 dm b) {M : am_I} {N : am_N} {post : Int32 → am_I → am_N → Prop} (h : w_X1_cartsStuck b M N post) : jg (d + 1) mX1_cartsStuck dm 0 [(0, .inr (.inr (1, b, 14)))] [] M N (am_pi post) := by
  refine j_iconst (v := 0) dX1_cartsStuck_0 (by decide) ?_
  refine j_istore_n dX1_cartsStuck_1 (by decide) rfl ?_
  refine j_iconst (v := 0) dX1_cartsStuck_2 (by decide) ?_
  refine j_istore_n dX1_cartsStuck_3 (by decide) rfl ?_
  refine j_sub [2, 1, 0] rfl ?_
  obtain ⟨n, h⟩ := h
  exact k_X1_cartsStuck_p4 h1b n _ _ _ _ h
def w_X1_isPlace (a1 : Int32) (M : am_I) (N : am_N) (post : Int32 → am_I → am_N → Prop) : Prop :=
  ((a1 < 0 → post 0 M N) ∧ (¬ a1 < 0 → ((8 ≤ a1 → post 0 M N) ∧ (¬ 8 ≤ a1 → post 1 M N))))
set_option maxRecDepth 10000 in
theorem k_X1_isPlace {d : Nat} {dm : List am_C}  {a1 : Int32} {M : am_I} {N : am_N} {post : Int32 → am_I → am_N → Prop} (h : w_X1_isPlace a1 M N post) : jg (d + 1) mX1_isPlace dm 0 [(0, .inl a1)] [] M N (am_pi post) := by
  refine j_iload_n 0 dX1_isPlace_0 rfl ?_
  refine j_if_lt (tgt := 14) dX1_isPlace_1 (by decide) (fun hc => ?_) (fun hc => ?_)
  · replace h := h.1 hc
    refine j_iconst (v := 0) dX1_isPlace_14 (by decide) ?_
    exact j_zret dX1_isPlace_15 rfl (Or.inl rfl) ⟨_, rfl, h⟩
  · replace h := h.2 hc
    refine j_iload_n 0 dX1_isPlace_4 rfl ?_
    refine j_bipush (v := 8) dX1_isPlace_5 (by decide) ?_
    refine j_icmp_ge (tgt := 14) dX1_isPlace_7 (by decide) (fun hc => ?_) (fun hc => ?_)
    · replace h := h.1 hc
      refine j_iconst (v := 0) dX1_isPlace_14 (by decide) ?_
      exact j_zret dX1_isPlace_15 rfl (Or.inl rfl) ⟨_, rfl, h⟩
    · replace h := h.2 hc
      refine j_iconst (v := 1) dX1_isPlace_10 (by decide) ?_
      refine j_goto (tgt := 15) dX1_isPlace_11 (by decide) ?_
      exact j_zret dX1_isPlace_15 rfl (Or.inr rfl) ⟨_, rfl, h⟩
def w_X1_bring (b : Nat) (a1 : Int32) (M : am_I) (N : am_N) (post : am_I → am_N → Prop) : Prop :=
  w_X1_isPlace a1 M N (fun zr1 zM2 zN3 => ((zr1 = 0 → post zM2 zN3) ∧ (¬ zr1 = 0 → w_X9_at 2 a1 3 zM2 zN3 (fun zr4 zM5 zN6 => vp_in a1 8 ∧ w_X9_at 2 a1 4 (am_u zM5 (1, b, 15) a1.toNatClampNeg zr4) zN6 (fun zr7 zM8 zN9 => vp_in a1 8 ∧ vp_in a1 8 ∧ post (am_u (am_u zM8 (1, b, 16) a1.toNatClampNeg zr7) (1, b, 17) a1.toNatClampNeg 0) zN9)))))
set_option maxRecDepth 10000 in
theorem k_X1_bring {d : Nat} {dm : List am_C} {b : Nat} (h0 : am_d0 dm) (h1b : am_d1 dm b) (h2 : am_d2 dm) {a1 : Int32} {M : am_I} {N : am_N} {post : am_I → am_N → Prop} (h : w_X1_bring b a1 M N post) : jg (d + 2) mX1_bring dm 0 [(0, .inr (.inr (1, b, 14))), (1, .inl a1)] [] M N (am_pv post) := by
  refine j_iload_n 1 dX1_bring_0 rfl ?_
  refine j_invS (As := [.inl a1]) dX1_bring_1 msRX1_41 mbX1_isPlace rfl rfl (Nat.le_of_ble_eq_true rfl) (Nat.le_of_ble_eq_true rfl) (by omega) (k_X1_isPlace (d := d + 0)  h) ?_
  rintro _ zM2 zN3 ⟨zr1, rfl, h⟩
  refine j_if_eq (tgt := 50) dX1_bring_4 (by decide) (fun hc => ?_) (fun hc => ?_)
  · replace h := h.1 hc
    exact j_vret dX1_bring_50 rfl ⟨rfl, h⟩
  · replace h := h.2 hc
    refine j_aload_n 0 dX1_bring_7 rfl ?_
    refine j_getR (b := (1, b, 15)) dX1_bring_8 fsRX1_9 (h1b 14 (by decide)) rfl rfl ?_
    refine j_iload_n 1 dX1_bring_11 rfl ?_
    refine j_aload_n 0 dX1_bring_12 rfl ?_
    refine j_getR (b := (0, 0, 1)) dX1_bring_13 fsRX1_28 (h1b 14 (by decide)) rfl rfl ?_
    refine j_getR (b := (2, 2, 0)) dX1_bring_16 fsRX1_45 (h0 1 (by decide)) rfl rfl ?_
    refine j_iload_n 1 dX1_bring_19 rfl ?_
    refine j_iconst (v := 3) dX1_bring_20 (by decide) ?_
    refine j_invV (As := [.inl a1, .inl 3]) dX1_bring_21 msRX1_51 mbX9_at rfl rfl (Nat.le_of_ble_eq_true rfl) (Nat.le_of_ble_eq_true rfl) (by omega) (h2 2 (by decide) 0 (by decide)) rfl rfl (k_X9_at (d := d + 0) h2 (by decide) h) ?_
    rintro _ zM5 zN6 ⟨zr4, rfl, h⟩
    obtain ⟨hq, h⟩ := h
    refine j_iast dX1_bring_24 (h1b 15 (by decide)) rfl hq ?_
    refine j_aload_n 0 dX1_bring_25 rfl ?_
    refine j_getR (b := (1, b, 16)) dX1_bring_26 fsRX1_15 (h1b 14 (by decide)) rfl rfl ?_
    refine j_iload_n 1 dX1_bring_29 rfl ?_
    refine j_aload_n 0 dX1_bring_30 rfl ?_
    refine j_getR (b := (0, 0, 1)) dX1_bring_31 fsRX1_28 (h1b 14 (by decide)) rfl rfl ?_
    refine j_getR (b := (2, 2, 0)) dX1_bring_34 fsRX1_45 (h0 1 (by decide)) rfl rfl ?_
    refine j_iload_n 1 dX1_bring_37 rfl ?_
    refine j_iconst (v := 4) dX1_bring_38 (by decide) ?_
    refine j_invV (As := [.inl a1, .inl 4]) dX1_bring_39 msRX1_51 mbX9_at rfl rfl (Nat.le_of_ble_eq_true rfl) (Nat.le_of_ble_eq_true rfl) (by omega) (h2 2 (by decide) 0 (by decide)) rfl rfl (k_X9_at (d := d + 0) h2 (by decide) h) ?_
    rintro _ zM8 zN9 ⟨zr7, rfl, h⟩
    obtain ⟨hq, h⟩ := h
    refine j_iast dX1_bring_42 (h1b 16 (by decide)) rfl hq ?_
    refine j_aload_n 0 dX1_bring_43 rfl ?_
    refine j_getR (b := (1, b, 17)) dX1_bring_44 fsRX1_18 (h1b 14 (by decide)) rfl rfl ?_
    refine j_iload_n 1 dX1_bring_47 rfl ?_
    refine j_iconst (v := 0) dX1_bring_48 (by decide) ?_
    obtain ⟨hq, h⟩ := h
    refine j_iast dX1_bring_49 (h1b 17 (by decide)) rfl hq ?_
    exact j_vret dX1_bring_50 rfl ⟨rfl, h⟩
def w_X1_isFlat (b : Nat) (a1 : Int32) (M : am_I) (N : am_N) (post : Int32 → am_I → am_N → Prop) : Prop :=
  w_X1_isPlace a1 M N (fun zr1 zM2 zN3 => ((zr1 = 0 → post 0 zM2 zN3) ∧ (¬ zr1 = 0 → vp_in a1 8 ∧ ((¬ (zM2 (1, b, 17) a1.toNatClampNeg) = 5 → post 0 zM2 zN3) ∧ ((zM2 (1, b, 17) a1.toNatClampNeg) = 5 → post 1 zM2 zN3)))))
set_option maxRecDepth 10000 in
theorem k_X1_isFlat {d : Nat} {dm : List am_C} {b : Nat} (h1b : am_d1 dm b) {a1 : Int32} {M : am_I} {N : am_N} {post : Int32 → am_I → am_N → Prop} (h : w_X1_isFlat b a1 M N post) : jg (d + 2) mX1_isFlat dm 0 [(0, .inr (.inr (1, b, 14))), (1, .inl a1)] [] M N (am_pi post) := by
  refine j_iload_n 1 dX1_isFlat_0 rfl ?_
  refine j_invS (As := [.inl a1]) dX1_isFlat_1 msRX1_41 mbX1_isPlace rfl rfl (Nat.le_of_ble_eq_true rfl) (Nat.le_of_ble_eq_true rfl) (by omega) (k_X1_isPlace (d := d + 0)  h) ?_
  rintro _ zM2 zN3 ⟨zr1, rfl, h⟩
  refine j_if_eq (tgt := 21) dX1_isFlat_4 (by decide) (fun hc => ?_) (fun hc => ?_)
  · replace h := h.1 hc
    refine j_iconst (v := 0) dX1_isFlat_21 (by decide) ?_
    exact j_zret dX1_isFlat_22 rfl (Or.inl rfl) ⟨_, rfl, h⟩
  · replace h := h.2 hc
    refine j_aload_n 0 dX1_isFlat_7 rfl ?_
    refine j_getR (b := (1, b, 17)) dX1_isFlat_8 fsRX1_18 (h1b 14 (by decide)) rfl rfl ?_
    refine j_iload_n 1 dX1_isFlat_11 rfl ?_
    obtain ⟨hq, h⟩ := h
    refine j_iald dX1_isFlat_12 (h1b 17 (by decide)) rfl hq ?_
    refine j_iconst (v := 5) dX1_isFlat_13 (by decide) ?_
    refine j_icmp_ne (tgt := 21) dX1_isFlat_14 (by decide) (fun hc => ?_) (fun hc => ?_)
    · replace h := h.1 hc
      refine j_iconst (v := 0) dX1_isFlat_21 (by decide) ?_
      exact j_zret dX1_isFlat_22 rfl (Or.inl rfl) ⟨_, rfl, h⟩
    · replace h := h.2 hc
      refine j_iconst (v := 1) dX1_isFlat_17 (by decide) ?_
      refine j_goto (tgt := 22) dX1_isFlat_18 (by decide) ?_
      exact j_zret dX1_isFlat_22 rfl (Or.inr rfl) ⟨_, rfl, h⟩
def w_X1_plugIn (b : Nat) (a1 : Int32) (M : am_I) (N : am_N) (post : am_I → am_N → Prop) : Prop :=
  w_X9_at 2 a1 4 M N (fun zr1 zM2 zN3 => vp_in a1 8 ∧ w_J9_min_7cf53 zr1 ((zM2 (1, b, 16) a1.toNatClampNeg) + 10) zM2 zN3 (fun zr4 zM5 zN6 => vp_in a1 8 ∧ vp_in a1 8 ∧ ((¬ ((am_u zM5 (1, b, 16) a1.toNatClampNeg zr4) (1, b, 16) a1.toNatClampNeg) = zr1 → vp_in a1 8 ∧ post (am_u (am_u zM5 (1, b, 16) a1.toNatClampNeg zr4) (1, b, 17) a1.toNatClampNeg 3) zN6) ∧ (((am_u zM5 (1, b, 16) a1.toNatClampNeg zr4) (1, b, 16) a1.toNatClampNeg) = zr1 → vp_in a1 8 ∧ post (am_u (am_u zM5 (1, b, 16) a1.toNatClampNeg zr4) (1, b, 17) a1.toNatClampNeg 0) zN6))))
set_option maxRecDepth 10000 in
theorem k_X1_plugIn {d : Nat} {dm : List am_C} {b : Nat} (h0 : am_d0 dm) (h1b : am_d1 dm b) (h2 : am_d2 dm) {a1 : Int32} {M : am_I} {N : am_N} {post : am_I → am_N → Prop} (h : w_X1_plugIn b a1 M N post) : jg (d + 2) mX1_plugIn dm 0 [(0, .inr (.inr (1, b, 14))), (1, .inl a1)] [] M N (am_pv post) := by
  refine j_aload_n 0 dX1_plugIn_0 rfl ?_
  refine j_getR (b := (0, 0, 1)) dX1_plugIn_1 fsRX1_28 (h1b 14 (by decide)) rfl rfl ?_
  refine j_getR (b := (2, 2, 0)) dX1_plugIn_4 fsRX1_45 (h0 1 (by decide)) rfl rfl ?_
  refine j_iload_n 1 dX1_plugIn_7 rfl ?_
  refine j_iconst (v := 4) dX1_plugIn_8 (by decide) ?_
  refine j_invV (As := [.inl a1, .inl 4]) dX1_plugIn_9 msRX1_51 mbX9_at rfl rfl (Nat.le_of_ble_eq_true rfl) (Nat.le_of_ble_eq_true rfl) (by omega) (h2 2 (by decide) 0 (by decide)) rfl rfl (k_X9_at (d := d + 0) h2 (by decide) h) ?_
  rintro _ zM2 zN3 ⟨zr1, rfl, h⟩
  refine j_istore_n dX1_plugIn_12 (by decide) rfl ?_
  refine j_aload_n 1 dX1_plugIn_13 rfl ?_
  refine j_getR (b := (1, b, 16)) dX1_plugIn_14 fsRX1_15 (h1b 14 (by decide)) rfl rfl ?_
  refine j_iload_n 2 dX1_plugIn_17 rfl ?_
  refine j_iload_n 0 dX1_plugIn_18 rfl ?_
  refine j_aload_n 1 dX1_plugIn_19 rfl ?_
  refine j_getR (b := (1, b, 16)) dX1_plugIn_20 fsRX1_15 (h1b 14 (by decide)) rfl rfl ?_
  refine j_iload_n 2 dX1_plugIn_23 rfl ?_
  obtain ⟨hq, h⟩ := h
  refine j_iald dX1_plugIn_24 (h1b 16 (by decide)) rfl hq ?_
  refine j_bipush (v := 10) dX1_plugIn_25 (by decide) ?_
  refine j_iadd dX1_plugIn_27 ?_
  refine j_invS (As := [.inl zr1, .inl ((zM2 (1, b, 16) a1.toNatClampNeg) + 10)]) dX1_plugIn_28 msRX1_60 mbJ9_min_7cf53 rfl rfl (Nat.le_of_ble_eq_true rfl) (Nat.le_of_ble_eq_true rfl) (by omega) (k_J9_min_7cf53 (d := d + 0)  h) ?_
  rintro _ zM5 zN6 ⟨zr4, rfl, h⟩
  obtain ⟨hq, h⟩ := h
  refine j_iast dX1_plugIn_31 (h1b 16 (by decide)) rfl hq ?_
  refine j_aload_n 1 dX1_plugIn_32 rfl ?_
  refine j_getR (b := (1, b, 17)) dX1_plugIn_33 fsRX1_18 (h1b 14 (by decide)) rfl rfl ?_
  refine j_iload_n 2 dX1_plugIn_36 rfl ?_
  refine j_aload_n 1 dX1_plugIn_37 rfl ?_
  refine j_getR (b := (1, b, 16)) dX1_plugIn_38 fsRX1_15 (h1b 14 (by decide)) rfl rfl ?_
  refine j_iload_n 2 dX1_plugIn_41 rfl ?_
  obtain ⟨hq, h⟩ := h
  refine j_iald dX1_plugIn_42 (h1b 16 (by decide)) rfl hq ?_
  refine j_iload_n 0 dX1_plugIn_43 rfl ?_
  refine j_icmp_ne (tgt := 51) dX1_plugIn_44 (by decide) (fun hc => ?_) (fun hc => ?_)
  · replace h := h.1 hc
    refine j_iconst (v := 3) dX1_plugIn_51 (by decide) ?_
    obtain ⟨hq, h⟩ := h
    refine j_iast dX1_plugIn_52 (h1b 17 (by decide)) rfl hq ?_
    exact j_vret dX1_plugIn_53 rfl ⟨rfl, h⟩
  · replace h := h.2 hc
    refine j_iconst (v := 0) dX1_plugIn_47 (by decide) ?_
    refine j_goto (tgt := 52) dX1_plugIn_48 (by decide) ?_
    obtain ⟨hq, h⟩ := h
    refine j_iast dX1_plugIn_52 (h1b 17 (by decide)) rfl hq ?_
    exact j_vret dX1_plugIn_53 rfl ⟨rfl, h⟩
def w_X1_hasPower (b : Nat) (a1 : Int32) (M : am_I) (N : am_N) (post : Int32 → am_I → am_N → Prop) : Prop :=
  vp_in a1 8 ∧ w_X9_at 2 a1 4 M N (fun zr1 zM2 zN3 => (((4 * (M (1, b, 16) a1.toNatClampNeg)) < zr1 → post 0 zM2 zN3) ∧ (¬ (4 * (M (1, b, 16) a1.toNatClampNeg)) < zr1 → post 1 zM2 zN3)))
set_option maxRecDepth 10000 in
theorem k_X1_hasPower {d : Nat} {dm : List am_C} {b : Nat} (h0 : am_d0 dm) (h1b : am_d1 dm b) (h2 : am_d2 dm) {a1 : Int32} {M : am_I} {N : am_N} {post : Int32 → am_I → am_N → Prop} (h : w_X1_hasPower b a1 M N post) : jg (d + 2) mX1_hasPower dm 0 [(0, .inr (.inr (1, b, 14))), (1, .inl a1)] [] M N (am_pi post) := by
  refine j_iconst (v := 4) dX1_hasPower_0 (by decide) ?_
  refine j_aload_n 0 dX1_hasPower_1 rfl ?_
  refine j_getR (b := (1, b, 16)) dX1_hasPower_2 fsRX1_15 (h1b 14 (by decide)) rfl rfl ?_
  refine j_iload_n 1 dX1_hasPower_5 rfl ?_
  obtain ⟨hq, h⟩ := h
  refine j_iald dX1_hasPower_6 (h1b 16 (by decide)) rfl hq ?_
  refine j_imul dX1_hasPower_7 ?_
  refine j_aload_n 0 dX1_hasPower_8 rfl ?_
  refine j_getR (b := (0, 0, 1)) dX1_hasPower_9 fsRX1_28 (h1b 14 (by decide)) rfl rfl ?_
  refine j_getR (b := (2, 2, 0)) dX1_hasPower_12 fsRX1_45 (h0 1 (by decide)) rfl rfl ?_
  refine j_iload_n 1 dX1_hasPower_15 rfl ?_
  refine j_iconst (v := 4) dX1_hasPower_16 (by decide) ?_
  refine j_invV (As := [.inl a1, .inl 4]) dX1_hasPower_17 msRX1_51 mbX9_at rfl rfl (Nat.le_of_ble_eq_true rfl) (Nat.le_of_ble_eq_true rfl) (by omega) (h2 2 (by decide) 0 (by decide)) rfl rfl (k_X9_at (d := d + 0) h2 (by decide) h) ?_
  rintro _ zM2 zN3 ⟨zr1, rfl, h⟩
  refine j_icmp_lt (tgt := 27) dX1_hasPower_20 (by decide) (fun hc => ?_) (fun hc => ?_)
  · replace h := h.1 hc
    refine j_iconst (v := 0) dX1_hasPower_27 (by decide) ?_
    exact j_zret dX1_hasPower_28 rfl (Or.inl rfl) ⟨_, rfl, h⟩
  · replace h := h.2 hc
    refine j_iconst (v := 1) dX1_hasPower_23 (by decide) ?_
    refine j_goto (tgt := 28) dX1_hasPower_24 (by decide) ?_
    exact j_zret dX1_hasPower_28 rfl (Or.inr rfl) ⟨_, rfl, h⟩
def w_X1_isHome (b : Nat) (a1 : Int32) (M : am_I) (N : am_N) (post : Int32 → am_I → am_N → Prop) : Prop :=
  vp_in a1 8 ∧ w_X9_at 2 a1 3 M N (fun zr1 zM2 zN3 => ((¬ (M (1, b, 15) a1.toNatClampNeg) = zr1 → post 0 zM2 zN3) ∧ ((M (1, b, 15) a1.toNatClampNeg) = zr1 → post 1 zM2 zN3)))
set_option maxRecDepth 10000 in
theorem k_X1_isHome {d : Nat} {dm : List am_C} {b : Nat} (h0 : am_d0 dm) (h1b : am_d1 dm b) (h2 : am_d2 dm) {a1 : Int32} {M : am_I} {N : am_N} {post : Int32 → am_I → am_N → Prop} (h : w_X1_isHome b a1 M N post) : jg (d + 2) mX1_isHome dm 0 [(0, .inr (.inr (1, b, 14))), (1, .inl a1)] [] M N (am_pi post) := by
  refine j_aload_n 0 dX1_isHome_0 rfl ?_
  refine j_getR (b := (1, b, 15)) dX1_isHome_1 fsRX1_9 (h1b 14 (by decide)) rfl rfl ?_
  refine j_iload_n 1 dX1_isHome_4 rfl ?_
  obtain ⟨hq, h⟩ := h
  refine j_iald dX1_isHome_5 (h1b 15 (by decide)) rfl hq ?_
  refine j_aload_n 0 dX1_isHome_6 rfl ?_
  refine j_getR (b := (0, 0, 1)) dX1_isHome_7 fsRX1_28 (h1b 14 (by decide)) rfl rfl ?_
  refine j_getR (b := (2, 2, 0)) dX1_isHome_10 fsRX1_45 (h0 1 (by decide)) rfl rfl ?_
  refine j_iload_n 1 dX1_isHome_13 rfl ?_
  refine j_iconst (v := 3) dX1_isHome_14 (by decide) ?_
  refine j_invV (As := [.inl a1, .inl 3]) dX1_isHome_15 msRX1_51 mbX9_at rfl rfl (Nat.le_of_ble_eq_true rfl) (Nat.le_of_ble_eq_true rfl) (by omega) (h2 2 (by decide) 0 (by decide)) rfl rfl (k_X9_at (d := d + 0) h2 (by decide) h) ?_
  rintro _ zM2 zN3 ⟨zr1, rfl, h⟩
  refine j_icmp_ne (tgt := 25) dX1_isHome_18 (by decide) (fun hc => ?_) (fun hc => ?_)
  · replace h := h.1 hc
    refine j_iconst (v := 0) dX1_isHome_25 (by decide) ?_
    exact j_zret dX1_isHome_26 rfl (Or.inl rfl) ⟨_, rfl, h⟩
  · replace h := h.2 hc
    refine j_iconst (v := 1) dX1_isHome_21 (by decide) ?_
    refine j_goto (tgt := 26) dX1_isHome_22 (by decide) ?_
    exact j_zret dX1_isHome_26 rfl (Or.inr rfl) ⟨_, rfl, h⟩
def w_X1_factOfCart (b : Nat) (a1 : Int32) (a2 : Int32) (M : am_I) (N : am_N) (post : Int32 → am_I → am_N → Prop) : Prop :=
  w_X1_isPlace a1 M N (fun zr1 zM2 zN3 => ((¬ zr1 = 0 → ((a2 = 0 → w_X9_at 2 a1 0 zM2 zN3 (fun zr4 zM5 zN6 => post zr4 zM5 zN6)) ∧ (a2 = 1 → vp_in a1 8 ∧ post (zM2 (1, b, 15) a1.toNatClampNeg) zM2 zN3) ∧ (a2 = 2 → vp_in a1 8 ∧ post (zM2 (1, b, 16) a1.toNatClampNeg) zM2 zN3) ∧ (a2 = 3 → vp_in a1 8 ∧ post (zM2 (1, b, 17) a1.toNatClampNeg) zM2 zN3) ∧ (a2 = 4 → vp_in a1 8 ∧ post (zM2 (1, b, 18) a1.toNatClampNeg) zM2 zN3) ∧ (a2 = 5 → vp_in a1 8 ∧ w_J13_bitCount_95d88 (zN3 (1, b, 19) a1.toNatClampNeg) zM2 zN3 (fun zr7 zM8 zN9 => post zr7 zM8 zN9)) ∧ (¬ a2 = 0 → ¬ a2 = 1 → ¬ a2 = 2 → ¬ a2 = 3 → ¬ a2 = 4 → ¬ a2 = 5 → w_X11_within a2 100 163 zM2 zN3 (fun zr10 zM11 zN12 => ((¬ zr10 = 0 → vp_in a1 8 ∧ w_X11_bit (a2 - 100) zM11 zN12 (fun zr13 zM14 zN15 => ((((zN12 (1, b, 19) a1.toNatClampNeg) &&& zr13) = 0 → post 0 zM14 zN15) ∧ (¬ ((zN12 (1, b, 19) a1.toNatClampNeg) &&& zr13) = 0 → post 1 zM14 zN15)))) ∧ (zr10 = 0 → post (-2) zM11 zN12)))))) ∧ (zr1 = 0 → post (-2) zM2 zN3)))
set_option maxRecDepth 10000 in
theorem k_X1_factOfCart {d : Nat} {dm : List am_C} {b : Nat} (h0 : am_d0 dm) (h1b : am_d1 dm b) (h2 : am_d2 dm) {a1 : Int32} {a2 : Int32} {M : am_I} {N : am_N} {post : Int32 → am_I → am_N → Prop} (h : w_X1_factOfCart b a1 a2 M N post) : jg (d + 2) mX1_factOfCart dm 0 [(0, .inr (.inr (1, b, 14))), (1, .inl a1), (2, .inl a2)] [] M N (am_pi post) := by
  refine j_iload_n 1 dX1_factOfCart_0 rfl ?_
  refine j_invS (As := [.inl a1]) dX1_factOfCart_1 msRX1_41 mbX1_isPlace rfl rfl (Nat.le_of_ble_eq_true rfl) (Nat.le_of_ble_eq_true rfl) (by omega) (k_X1_isPlace (d := d + 0)  h) ?_
  rintro _ zM2 zN3 ⟨zr1, rfl, h⟩
  refine j_if_ne (tgt := 10) dX1_factOfCart_4 (by decide) (fun hc => ?_) (fun hc => ?_)
  · replace h := h.1 hc
    refine j_iload_n 2 dX1_factOfCart_10 rfl ?_
    by_cases hs0 : a2 = 0
    · replace h := h.1 hs0
      refine j_tabK (k := 0) (tgt := 48) (off := 37) dX1_factOfCart_11 hs0 (by decide) (by decide) (by decide) (by decide) ?_
      refine j_aload_n 0 dX1_factOfCart_48 rfl ?_
      refine j_getR (b := (0, 0, 1)) dX1_factOfCart_49 fsRX1_28 (h1b 14 (by decide)) rfl rfl ?_
      refine j_getR (b := (2, 2, 0)) dX1_factOfCart_52 fsRX1_45 (h0 1 (by decide)) rfl rfl ?_
      refine j_iload_n 1 dX1_factOfCart_55 rfl ?_
      refine j_iconst (v := 0) dX1_factOfCart_56 (by decide) ?_
      refine j_invV (As := [.inl a1, .inl 0]) dX1_factOfCart_57 msRX1_51 mbX9_at rfl rfl (Nat.le_of_ble_eq_true rfl) (Nat.le_of_ble_eq_true rfl) (by omega) (h2 2 (by decide) 0 (by decide)) rfl rfl (k_X9_at (d := d + 0) h2 (by decide) h) ?_
      rintro _ zM5 zN6 ⟨zr4, rfl, h⟩
      exact j_iret dX1_factOfCart_60 rfl ⟨_, rfl, h⟩
    by_cases hs1 : a2 = 1
    · replace h := h.2.1 hs1
      refine j_tabK (k := 1) (tgt := 61) (off := 50) dX1_factOfCart_11 hs1 (by decide) (by decide) (by decide) (by decide) ?_
      refine j_aload_n 0 dX1_factOfCart_61 rfl ?_
      refine j_getR (b := (1, b, 15)) dX1_factOfCart_62 fsRX1_9 (h1b 14 (by decide)) rfl rfl ?_
      refine j_iload_n 1 dX1_factOfCart_65 rfl ?_
      obtain ⟨hq, h⟩ := h
      refine j_iald dX1_factOfCart_66 (h1b 15 (by decide)) rfl hq ?_
      exact j_iret dX1_factOfCart_67 rfl ⟨_, rfl, h⟩
    by_cases hs2 : a2 = 2
    · replace h := h.2.2.1 hs2
      refine j_tabK (k := 2) (tgt := 68) (off := 57) dX1_factOfCart_11 hs2 (by decide) (by decide) (by decide) (by decide) ?_
      refine j_aload_n 0 dX1_factOfCart_68 rfl ?_
      refine j_getR (b := (1, b, 16)) dX1_factOfCart_69 fsRX1_15 (h1b 14 (by decide)) rfl rfl ?_
      refine j_iload_n 1 dX1_factOfCart_72 rfl ?_
      obtain ⟨hq, h⟩ := h
      refine j_iald dX1_factOfCart_73 (h1b 16 (by decide)) rfl hq ?_
      exact j_iret dX1_factOfCart_74 rfl ⟨_, rfl, h⟩
    by_cases hs3 : a2 = 3
    · replace h := h.2.2.2.1 hs3
      refine j_tabK (k := 3) (tgt := 75) (off := 64) dX1_factOfCart_11 hs3 (by decide) (by decide) (by decide) (by decide) ?_
      refine j_aload_n 0 dX1_factOfCart_75 rfl ?_
      refine j_getR (b := (1, b, 17)) dX1_factOfCart_76 fsRX1_18 (h1b 14 (by decide)) rfl rfl ?_
      refine j_iload_n 1 dX1_factOfCart_79 rfl ?_
      obtain ⟨hq, h⟩ := h
      refine j_iald dX1_factOfCart_80 (h1b 17 (by decide)) rfl hq ?_
      exact j_iret dX1_factOfCart_81 rfl ⟨_, rfl, h⟩
    by_cases hs4 : a2 = 4
    · replace h := h.2.2.2.2.1 hs4
      refine j_tabK (k := 4) (tgt := 82) (off := 71) dX1_factOfCart_11 hs4 (by decide) (by decide) (by decide) (by decide) ?_
      refine j_aload_n 0 dX1_factOfCart_82 rfl ?_
      refine j_getR (b := (1, b, 18)) dX1_factOfCart_83 fsRX1_21 (h1b 14 (by decide)) rfl rfl ?_
      refine j_iload_n 1 dX1_factOfCart_86 rfl ?_
      obtain ⟨hq, h⟩ := h
      refine j_iald dX1_factOfCart_87 (h1b 18 (by decide)) rfl hq ?_
      exact j_iret dX1_factOfCart_88 rfl ⟨_, rfl, h⟩
    by_cases hs5 : a2 = 5
    · replace h := h.2.2.2.2.2.1 hs5
      refine j_tabK (k := 5) (tgt := 89) (off := 78) dX1_factOfCart_11 hs5 (by decide) (by decide) (by decide) (by decide) ?_
      refine j_aload_n 0 dX1_factOfCart_89 rfl ?_
      refine j_getR (b := (1, b, 19)) dX1_factOfCart_90 fsRX1_24 (h1b 14 (by decide)) rfl rfl ?_
      refine j_iload_n 1 dX1_factOfCart_93 rfl ?_
      obtain ⟨hq, h⟩ := h
      refine j_lald dX1_factOfCart_94 (h1b 19 (by decide)) rfl hq ?_
      refine j_invS (As := [.inr (.inl (zN3 (1, b, 19) a1.toNatClampNeg))]) dX1_factOfCart_95 msRX1_78 mbJ13_bitCount_95d88 rfl rfl (Nat.le_of_ble_eq_true rfl) (Nat.le_of_ble_eq_true rfl) (by omega) (k_J13_bitCount_95d88 (d := d + 0)  h) ?_
      rintro _ zM8 zN9 ⟨zr7, rfl, h⟩
      exact j_iret dX1_factOfCart_98 rfl ⟨_, rfl, h⟩
    replace h := h.2.2.2.2.2.2 hs0 hs1 hs2 hs3 hs4 hs5
    refine j_tableOut (tgt := 99) dX1_factOfCart_11 (am_sw0 (n := 5) (fun k hk => match k, hk with | 0, _ => hs0 | 1, _ => hs1 | 2, _ => hs2 | 3, _ => hs3 | 4, _ => hs4 | 5, _ => hs5 | k + 6, hk => absurd hk (by omega))) (by decide) ?_
    refine j_iload_n 2 dX1_factOfCart_99 rfl ?_
    refine j_bipush (v := 100) dX1_factOfCart_100 (by decide) ?_
    refine j_sipush (v := 163) dX1_factOfCart_102 (by decide) ?_
    refine j_invS (As := [.inl a2, .inl 100, .inl 163]) dX1_factOfCart_105 msRX1_84 mbX11_within rfl rfl (Nat.le_of_ble_eq_true rfl) (Nat.le_of_ble_eq_true rfl) (by omega) (k_X11_within (d := d + 0)  h) ?_
    rintro _ zM11 zN12 ⟨zr10, rfl, h⟩
    refine j_if_ne (tgt := 114) dX1_factOfCart_108 (by decide) (fun hc => ?_) (fun hc => ?_)
    · replace h := h.1 hc
      refine j_aload_n 0 dX1_factOfCart_114 rfl ?_
      refine j_getR (b := (1, b, 19)) dX1_factOfCart_115 fsRX1_24 (h1b 14 (by decide)) rfl rfl ?_
      refine j_iload_n 1 dX1_factOfCart_118 rfl ?_
      obtain ⟨hq, h⟩ := h
      refine j_lald dX1_factOfCart_119 (h1b 19 (by decide)) rfl hq ?_
      refine j_iload_n 2 dX1_factOfCart_120 rfl ?_
      refine j_bipush (v := 100) dX1_factOfCart_121 (by decide) ?_
      refine j_isub dX1_factOfCart_123 ?_
      refine j_invS (As := [.inl (a2 - 100)]) dX1_factOfCart_124 msRX1_74 mbX11_bit rfl rfl (Nat.le_of_ble_eq_true rfl) (Nat.le_of_ble_eq_true rfl) (by omega) (k_X11_bit (d := d + 0)  h) ?_
      rintro _ zM14 zN15 ⟨zr13, rfl, h⟩
      refine j_land dX1_factOfCart_127 ?_
      refine j_lconst (v := 0) dX1_factOfCart_128 (by decide) ?_
      refine j_lcmp_eq (tgt := 137) dX1_factOfCart_129 dX1_factOfCart_130 (by decide) (fun hc => ?_) (fun hc => ?_)
      · replace h := h.1 hc
        refine j_iconst (v := 0) dX1_factOfCart_137 (by decide) ?_
        exact j_iret dX1_factOfCart_138 rfl ⟨_, rfl, h⟩
      · replace h := h.2 hc
        refine j_iconst (v := 1) dX1_factOfCart_133 (by decide) ?_
        refine j_goto (tgt := 138) dX1_factOfCart_134 (by decide) ?_
        exact j_iret dX1_factOfCart_138 rfl ⟨_, rfl, h⟩
    · replace h := h.2 hc
      refine j_bipush (v := (-2)) dX1_factOfCart_111 (by decide) ?_
      exact j_iret dX1_factOfCart_113 rfl ⟨_, rfl, h⟩
  · replace h := h.2 hc
    refine j_bipush (v := (-2)) dX1_factOfCart_7 (by decide) ?_
    exact j_iret dX1_factOfCart_9 rfl ⟨_, rfl, h⟩
def w_X1_refill (b : Nat) (a1 : Int32) (M : am_I) (N : am_N) (post : am_I → am_N → Prop) : Prop :=
  w_X1_isFlat b a1 M N (fun zr1 zM2 zN3 => ((zr1 = 0 → post zM2 zN3) ∧ (¬ zr1 = 0 → w_X9_at 2 a1 4 zM2 zN3 (fun zr4 zM5 zN6 => vp_in a1 8 ∧ vp_in a1 8 ∧ post (am_u (am_u zM5 (1, b, 16) a1.toNatClampNeg zr4) (1, b, 17) a1.toNatClampNeg 0) zN6))))
set_option maxRecDepth 10000 in
theorem k_X1_refill {d : Nat} {dm : List am_C} {b : Nat} (h0 : am_d0 dm) (h1b : am_d1 dm b) (h2 : am_d2 dm) {a1 : Int32} {M : am_I} {N : am_N} {post : am_I → am_N → Prop} (h : w_X1_refill b a1 M N post) : jg (d + 3) mX1_refill dm 0 [(0, .inr (.inr (1, b, 14))), (1, .inl a1)] [] M N (am_pv post) := by
  refine j_aload_n 0 dX1_refill_0 rfl ?_
  refine j_iload_n 1 dX1_refill_1 rfl ?_
  refine j_invV (As := [.inl a1]) dX1_refill_2 msRX1_57 mbX1_isFlat rfl rfl (Nat.le_of_ble_eq_true rfl) (Nat.le_of_ble_eq_true rfl) (by omega) (h1b 14 (by decide)) rfl rfl (k_X1_isFlat (d := d + 0) h1b h) ?_
  rintro _ zM2 zN3 ⟨zr1, rfl, h⟩
  refine j_if_eq (tgt := 33) dX1_refill_5 (by decide) (fun hc => ?_) (fun hc => ?_)
  · replace h := h.1 hc
    exact j_vret dX1_refill_33 rfl ⟨rfl, h⟩
  · replace h := h.2 hc
    refine j_aload_n 0 dX1_refill_8 rfl ?_
    refine j_getR (b := (1, b, 16)) dX1_refill_9 fsRX1_15 (h1b 14 (by decide)) rfl rfl ?_
    refine j_iload_n 1 dX1_refill_12 rfl ?_
    refine j_aload_n 0 dX1_refill_13 rfl ?_
    refine j_getR (b := (0, 0, 1)) dX1_refill_14 fsRX1_28 (h1b 14 (by decide)) rfl rfl ?_
    refine j_getR (b := (2, 2, 0)) dX1_refill_17 fsRX1_45 (h0 1 (by decide)) rfl rfl ?_
    refine j_iload_n 1 dX1_refill_20 rfl ?_
    refine j_iconst (v := 4) dX1_refill_21 (by decide) ?_
    refine j_invV (As := [.inl a1, .inl 4]) dX1_refill_22 msRX1_51 mbX9_at rfl rfl (Nat.le_of_ble_eq_true rfl) (Nat.le_of_ble_eq_true rfl) (by omega) (h2 2 (by decide) 0 (by decide)) rfl rfl (k_X9_at (d := d + 1) h2 (by decide) h) ?_
    rintro _ zM5 zN6 ⟨zr4, rfl, h⟩
    obtain ⟨hq, h⟩ := h
    refine j_iast dX1_refill_25 (h1b 16 (by decide)) rfl hq ?_
    refine j_aload_n 0 dX1_refill_26 rfl ?_
    refine j_getR (b := (1, b, 17)) dX1_refill_27 fsRX1_18 (h1b 14 (by decide)) rfl rfl ?_
    refine j_iload_n 1 dX1_refill_30 rfl ?_
    refine j_iconst (v := 0) dX1_refill_31 (by decide) ?_
    obtain ⟨hq, h⟩ := h
    refine j_iast dX1_refill_32 (h1b 17 (by decide)) rfl hq ?_
    exact j_vret dX1_refill_33 rfl ⟨rfl, h⟩
def w_X1_isReady (b : Nat) (a1 : Int32) (M : am_I) (N : am_N) (post : Int32 → am_I → am_N → Prop) : Prop :=
  vp_in a1 8 ∧ ((¬ (M (1, b, 17) a1.toNatClampNeg) = 0 → post 0 M N) ∧ ((M (1, b, 17) a1.toNatClampNeg) = 0 → w_X1_hasPower b a1 M N (fun zr1 zM2 zN3 => ((zr1 = 0 → post 0 zM2 zN3) ∧ (¬ zr1 = 0 → post 1 zM2 zN3)))))
set_option maxRecDepth 10000 in
theorem k_X1_isReady {d : Nat} {dm : List am_C} {b : Nat} (h0 : am_d0 dm) (h1b : am_d1 dm b) (h2 : am_d2 dm) {a1 : Int32} {M : am_I} {N : am_N} {post : Int32 → am_I → am_N → Prop} (h : w_X1_isReady b a1 M N post) : jg (d + 3) mX1_isReady dm 0 [(0, .inr (.inr (1, b, 14))), (1, .inl a1)] [] M N (am_pi post) := by
  refine j_aload_n 0 dX1_isReady_0 rfl ?_
  refine j_getR (b := (1, b, 17)) dX1_isReady_1 fsRX1_18 (h1b 14 (by decide)) rfl rfl ?_
  refine j_iload_n 1 dX1_isReady_4 rfl ?_
  obtain ⟨hq, h⟩ := h
  refine j_iald dX1_isReady_5 (h1b 17 (by decide)) rfl hq ?_
  refine j_if_ne (tgt := 21) dX1_isReady_6 (by decide) (fun hc => ?_) (fun hc => ?_)
  · replace h := h.1 hc
    refine j_iconst (v := 0) dX1_isReady_21 (by decide) ?_
    exact j_zret dX1_isReady_22 rfl (Or.inl rfl) ⟨_, rfl, h⟩
  · replace h := h.2 hc
    refine j_aload_n 0 dX1_isReady_9 rfl ?_
    refine j_iload_n 1 dX1_isReady_10 rfl ?_
    refine j_invV (As := [.inl a1]) dX1_isReady_11 msRX1_65 mbX1_hasPower rfl rfl (Nat.le_of_ble_eq_true rfl) (Nat.le_of_ble_eq_true rfl) (by omega) (h1b 14 (by decide)) rfl rfl (k_X1_hasPower (d := d + 0) h0 h1b h2 h) ?_
    rintro _ zM2 zN3 ⟨zr1, rfl, h⟩
    refine j_if_eq (tgt := 21) dX1_isReady_14 (by decide) (fun hc => ?_) (fun hc => ?_)
    · replace h := h.1 hc
      refine j_iconst (v := 0) dX1_isReady_21 (by decide) ?_
      exact j_zret dX1_isReady_22 rfl (Or.inl rfl) ⟨_, rfl, h⟩
    · replace h := h.2 hc
      refine j_iconst (v := 1) dX1_isReady_17 (by decide) ?_
      refine j_goto (tgt := 22) dX1_isReady_18 (by decide) ?_
      exact j_zret dX1_isReady_22 rfl (Or.inr rfl) ⟨_, rfl, h⟩
def w_X1_readyOnes_p4_b (b : Nat) (post : Int32 → am_I → am_N → Prop) (zk4 : Int32 → Int32 → am_I → am_N → Prop) (l1 : Int32) (l2 : Int32) (M : am_I) (N : am_N) : Prop :=
  ((8 ≤ l2 → post l1 M N) ∧ (¬ 8 ≤ l2 → w_X1_isReady b l2 M N (fun zr1 zM2 zN3 => ((zr1 = 0 → zk4 l1 (l2 + 1) zM2 zN3) ∧ (¬ zr1 = 0 → ∀ zv4 : Int32, zv4 = l1 ||| ((1 : Int32) <<< (l2 &&& 31)) → zk4 zv4 (l2 + 1) zM2 zN3)))))
noncomputable def w_X1_readyOnes_p4 (b : Nat) (post : Int32 → am_I → am_N → Prop) (n : Nat) : Int32 → Int32 → am_I → am_N → Prop :=
  Nat.rec (motive := fun _ => Int32 → Int32 → am_I → am_N → Prop) (fun _ _ _ _ => False) (fun _ zk => w_X1_readyOnes_p4_b b post zk) n
theorem w_X1_readyOnes_p4_s (b : Nat) (post : Int32 → am_I → am_N → Prop) (n : Nat) (l1 : Int32) (l2 : Int32) (M : am_I) (N : am_N) : w_X1_readyOnes_p4 b post (n + 1) l1 l2 M N = w_X1_readyOnes_p4_b b post (w_X1_readyOnes_p4 b post n) l1 l2 M N := rfl
set_option maxRecDepth 10000 in
theorem k_X1_readyOnes_p4 {d : Nat} {dm : List am_C} {b : Nat} (h0 : am_d0 dm) (h1b : am_d1 dm b) (h2 : am_d2 dm) {post : Int32 → am_I → am_N → Prop} : ∀ (n : Nat) (l1 : Int32) (l2 : Int32) (M : am_I) (N : am_N), w_X1_readyOnes_p4 b post n l1 l2 M N → jg (d + 4) mX1_readyOnes dm 4 [(0, .inr (.inr (1, b, 14))), (1, .inl l1), (2, .inl l2)] [] M N (am_pi post) := by
  intro n
  induction n with
  | zero => intro l1 l2 M N h; exact h.elim
  | succ n zih =>
    intro l1 l2 M N h
    replace h : w_X1_readyOnes_p4_b b post (w_X1_readyOnes_p4 b post n) l1 l2 M N := h
    refine j_iload_n 2 dX1_readyOnes_4 rfl ?_
    refine j_bipush (v := 8) dX1_readyOnes_5 (by decide) ?_
    refine j_icmp_ge (tgt := 30) dX1_readyOnes_7 (by decide) (fun hc => ?_) (fun hc => ?_)
    · replace h := h.1 hc
      refine j_iload_n 1 dX1_readyOnes_30 rfl ?_
      exact j_iret dX1_readyOnes_31 rfl ⟨_, rfl, h⟩
    · replace h := h.2 hc
      refine j_aload_n 0 dX1_readyOnes_10 rfl ?_
      refine j_iload_n 2 dX1_readyOnes_11 rfl ?_
      refine j_invV (As := [.inl l2]) dX1_readyOnes_12 msRX1_68 mbX1_isReady rfl rfl (Nat.le_of_ble_eq_true rfl) (Nat.le_of_ble_eq_true rfl) (by omega) (h1b 14 (by decide)) rfl rfl (k_X1_isReady (d := d + 0) h0 h1b h2 h) ?_
      rintro _ zM2 zN3 ⟨zr1, rfl, h⟩
      refine j_if_eq (tgt := 24) dX1_readyOnes_15 (by decide) (fun hc => ?_) (fun hc => ?_)
      · replace h := h.1 hc
        refine j_iinc 2 dX1_readyOnes_24 rfl rfl (by decide) rfl ?_
        refine j_goto (tgt := 4) dX1_readyOnes_27 (by decide) ?_
        refine j_sub [1, 2, 0] rfl ?_
        exact zih _ _ _ _ h
      · replace h := h.2 hc
        refine j_iload_n 1 dX1_readyOnes_18 rfl ?_
        refine j_iconst (v := 1) dX1_readyOnes_19 (by decide) ?_
        refine j_iload_n 2 dX1_readyOnes_20 rfl ?_
        refine j_ishl dX1_readyOnes_21 ?_
        refine j_ior dX1_readyOnes_22 ?_
        refine j_topi (fun zv4 hzv4 => ?_)
        replace h := h zv4 hzv4
        refine j_istore_n dX1_readyOnes_23 (by decide) rfl ?_
        refine j_iinc 2 dX1_readyOnes_24 rfl rfl (by decide) rfl ?_
        refine j_goto (tgt := 4) dX1_readyOnes_27 (by decide) ?_
        refine j_sub [2, 1, 0] rfl ?_
        exact zih _ _ _ _ h
def w_X1_readyOnes (b : Nat) (M : am_I) (N : am_N) (post : Int32 → am_I → am_N → Prop) : Prop :=
  ∃ n, w_X1_readyOnes_p4 b post n 0 0 M N
set_option maxRecDepth 10000 in
theorem k_X1_readyOnes {d : Nat} {dm : List am_C} {b : Nat} (h0 : am_d0 dm) (h1b : am_d1 dm b) (h2 : am_d2 dm) {M : am_I} {N : am_N} {post : Int32 → am_I → am_N → Prop} (h : w_X1_readyOnes b M N post) : jg (d + 4) mX1_readyOnes dm 0 [(0, .inr (.inr (1, b, 14)))] [] M N (am_pi post) := by
  refine j_iconst (v := 0) dX1_readyOnes_0 (by decide) ?_
  refine j_istore_n dX1_readyOnes_1 (by decide) rfl ?_
  refine j_iconst (v := 0) dX1_readyOnes_2 (by decide) ?_
  refine j_istore_n dX1_readyOnes_3 (by decide) rfl ?_
  refine j_sub [2, 1, 0] rfl ?_
  obtain ⟨n, h⟩ := h
  exact k_X1_readyOnes_p4 h0 h1b h2 n _ _ _ _ h
def w_X1_hearOf_p2_b (b : Nat) (post : am_I → am_N → Prop) (zk2 : Int32 → Int32 → Int32 → am_I → am_N → Prop) (l1 : Int32) (l2 : Int32) (l3 : Int32) (M : am_I) (N : am_N) : Prop :=
  ((8 ≤ l3 → post M N) ∧ (¬ 8 ≤ l3 → vp_in l3 8 ∧ (((M (1, b, 17) l3.toNatClampNeg) = 6 → zk2 l1 l2 (l3 + 1) M N) ∧ (¬ (M (1, b, 17) l3.toNatClampNeg) = 6 → vp_in l3 8 ∧ w_X11_far (M (1, b, 15) l3.toNatClampNeg) l1 M N (fun zr1 zM2 zN3 => ((l2 < zr1 → zk2 l1 l2 (l3 + 1) zM2 zN3) ∧ (¬ l2 < zr1 → vp_in l3 8 ∧ w_X11_bit l1 zM2 zN3 (fun zr4 zM5 zN6 => vp_in l3 8 ∧ zk2 l1 l2 (l3 + 1) zM5 (am_ul zN6 (1, b, 19) l3.toNatClampNeg ((zN3 (1, b, 19) l3.toNatClampNeg) ||| zr4))))))))))
noncomputable def w_X1_hearOf_p2 (b : Nat) (post : am_I → am_N → Prop) (n : Nat) : Int32 → Int32 → Int32 → am_I → am_N → Prop :=
  Nat.rec (motive := fun _ => Int32 → Int32 → Int32 → am_I → am_N → Prop) (fun _ _ _ _ _ => False) (fun _ zk => w_X1_hearOf_p2_b b post zk) n
theorem w_X1_hearOf_p2_s (b : Nat) (post : am_I → am_N → Prop) (n : Nat) (l1 : Int32) (l2 : Int32) (l3 : Int32) (M : am_I) (N : am_N) : w_X1_hearOf_p2 b post (n + 1) l1 l2 l3 M N = w_X1_hearOf_p2_b b post (w_X1_hearOf_p2 b post n) l1 l2 l3 M N := rfl
set_option maxRecDepth 10000 in
theorem k_X1_hearOf_p2 {d : Nat} {dm : List am_C} {b : Nat} (h1b : am_d1 dm b) {post : am_I → am_N → Prop} : ∀ (n : Nat) (l1 : Int32) (l2 : Int32) (l3 : Int32) (M : am_I) (N : am_N), w_X1_hearOf_p2 b post n l1 l2 l3 M N → jg (d + 3) mX1_hearOf dm 2 [(0, .inr (.inr (1, b, 14))), (1, .inl l1), (2, .inl l2), (3, .inl l3)] [] M N (am_pv post) := by
  intro n
  induction n with
  | zero => intro l1 l2 l3 M N h; exact h.elim
  | succ n zih =>
    intro l1 l2 l3 M N h
    replace h : w_X1_hearOf_p2_b b post (w_X1_hearOf_p2 b post n) l1 l2 l3 M N := h
    refine j_iload_n 3 dX1_hearOf_2 rfl ?_
    refine j_bipush (v := 8) dX1_hearOf_3 (by decide) ?_
    refine j_icmp_ge (tgt := 52) dX1_hearOf_5 (by decide) (fun hc => ?_) (fun hc => ?_)
    · replace h := h.1 hc
      exact j_vret dX1_hearOf_52 rfl ⟨rfl, h⟩
    · replace h := h.2 hc
      refine j_aload_n 0 dX1_hearOf_8 rfl ?_
      refine j_getR (b := (1, b, 17)) dX1_hearOf_9 fsRX1_18 (h1b 14 (by decide)) rfl rfl ?_
      refine j_iload_n 3 dX1_hearOf_12 rfl ?_
      obtain ⟨hq, h⟩ := h
      refine j_iald dX1_hearOf_13 (h1b 17 (by decide)) rfl hq ?_
      refine j_bipush (v := 6) dX1_hearOf_14 (by decide) ?_
      refine j_icmp_eq (tgt := 46) dX1_hearOf_16 (by decide) (fun hc => ?_) (fun hc => ?_)
      · replace h := h.1 hc
        refine j_iinc 3 dX1_hearOf_46 rfl rfl (by decide) rfl ?_
        refine j_goto (tgt := 2) dX1_hearOf_49 (by decide) ?_
        refine j_sub [1, 2, 3, 0] rfl ?_
        exact zih _ _ _ _ _ h
      · replace h := h.2 hc
        refine j_aload_n 0 dX1_hearOf_19 rfl ?_
        refine j_getR (b := (1, b, 15)) dX1_hearOf_20 fsRX1_9 (h1b 14 (by decide)) rfl rfl ?_
        refine j_iload_n 3 dX1_hearOf_23 rfl ?_
        obtain ⟨hq, h⟩ := h
        refine j_iald dX1_hearOf_24 (h1b 15 (by decide)) rfl hq ?_
        refine j_iload_n 1 dX1_hearOf_25 rfl ?_
        refine j_invS (As := [.inl (M (1, b, 15) l3.toNatClampNeg), .inl l1]) dX1_hearOf_26 msRX1_71 mbX11_far rfl rfl (Nat.le_of_ble_eq_true rfl) (Nat.le_of_ble_eq_true rfl) (by omega) (k_X11_far (d := d + 0)  h) ?_
        rintro _ zM2 zN3 ⟨zr1, rfl, h⟩
        refine j_iload_n 2 dX1_hearOf_29 rfl ?_
        refine j_icmp_gt (tgt := 46) dX1_hearOf_30 (by decide) (fun hc => ?_) (fun hc => ?_)
        · replace h := h.1 hc
          refine j_iinc 3 dX1_hearOf_46 rfl rfl (by decide) rfl ?_
          refine j_goto (tgt := 2) dX1_hearOf_49 (by decide) ?_
          refine j_sub [1, 2, 3, 0] rfl ?_
          exact zih _ _ _ _ _ h
        · replace h := h.2 hc
          refine j_aload_n 0 dX1_hearOf_33 rfl ?_
          refine j_getR (b := (1, b, 19)) dX1_hearOf_34 fsRX1_24 (h1b 14 (by decide)) rfl rfl ?_
          refine j_iload_n 3 dX1_hearOf_37 rfl ?_
          refine j_dup2 dX1_hearOf_38 rfl rfl ?_
          obtain ⟨hq, h⟩ := h
          refine j_lald dX1_hearOf_39 (h1b 19 (by decide)) rfl hq ?_
          refine j_iload_n 1 dX1_hearOf_40 rfl ?_
          refine j_invS (As := [.inl l1]) dX1_hearOf_41 msRX1_74 mbX11_bit rfl rfl (Nat.le_of_ble_eq_true rfl) (Nat.le_of_ble_eq_true rfl) (by omega) (k_X11_bit (d := d + 1)  h) ?_
          rintro _ zM5 zN6 ⟨zr4, rfl, h⟩
          refine j_lor dX1_hearOf_44 ?_
          obtain ⟨hq, h⟩ := h
          refine j_last dX1_hearOf_45 (h1b 19 (by decide)) rfl hq ?_
          refine j_iinc 3 dX1_hearOf_46 rfl rfl (by decide) rfl ?_
          refine j_goto (tgt := 2) dX1_hearOf_49 (by decide) ?_
          refine j_sub [1, 2, 3, 0] rfl ?_
          exact zih _ _ _ _ _ h
def w_X1_hearOf (b : Nat) (a1 : Int32) (a2 : Int32) (M : am_I) (N : am_N) (post : am_I → am_N → Prop) : Prop :=
  ∃ n, w_X1_hearOf_p2 b post n a1 a2 0 M N
set_option maxRecDepth 10000 in
theorem k_X1_hearOf {d : Nat} {dm : List am_C} {b : Nat} (h1b : am_d1 dm b) {a1 : Int32} {a2 : Int32} {M : am_I} {N : am_N} {post : am_I → am_N → Prop} (h : w_X1_hearOf b a1 a2 M N post) : jg (d + 3) mX1_hearOf dm 0 [(0, .inr (.inr (1, b, 14))), (1, .inl a1), (2, .inl a2)] [] M N (am_pv post) := by
  refine j_iconst (v := 0) dX1_hearOf_0 (by decide) ?_
  refine j_istore_n dX1_hearOf_1 (by decide) rfl ?_
  refine j_sub [1, 2, 3, 0] rfl ?_
  obtain ⟨n, h⟩ := h
  exact k_X1_hearOf_p2 h1b n _ _ _ _ _ h
