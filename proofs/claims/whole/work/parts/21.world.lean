/-! ===== methods: 21.world ===== -/
theorem dX10_begin_0 : decode mX10_begin.2.1 0 = .ok (.aload_n 0, 1) := by decide +kernel
theorem dX10_begin_1 : decode mX10_begin.2.1 1 = .ok (.getfield 32, 3) := by decide +kernel
theorem dX10_begin_4 : decode mX10_begin.2.1 4 = .ok (.invokevirtual 56, 3) := by decide +kernel
theorem dX10_begin_7 : decode mX10_begin.2.1 7 = .ok (.aload_n 0, 1) := by decide +kernel
theorem dX10_begin_8 : decode mX10_begin.2.1 8 = .ok (.getfield 41, 3) := by decide +kernel
theorem dX10_begin_11 : decode mX10_begin.2.1 11 = .ok (.invokevirtual 58, 3) := by decide +kernel
theorem dX10_begin_14 : decode mX10_begin.2.1 14 = .ok (.aload_n 0, 1) := by decide +kernel
theorem dX10_begin_15 : decode mX10_begin.2.1 15 = .ok (.getfield 48, 3) := by decide +kernel
theorem dX10_begin_18 : decode mX10_begin.2.1 18 = .ok (.invokevirtual 59, 3) := by decide +kernel
theorem dX10_begin_21 : decode mX10_begin.2.1 21 = .ok (.aload_n 0, 1) := by decide +kernel
theorem dX10_begin_22 : decode mX10_begin.2.1 22 = .ok (.getfield 9, 3) := by decide +kernel
theorem dX10_begin_25 : decode mX10_begin.2.1 25 = .ok (.iconst 3, 1) := by decide +kernel
theorem dX10_begin_26 : decode mX10_begin.2.1 26 = .ok (.invokestatic 60, 3) := by decide +kernel
theorem dX10_begin_29 : decode mX10_begin.2.1 29 = .ok (.aload_n 0, 1) := by decide +kernel
theorem dX10_begin_30 : decode mX10_begin.2.1 30 = .ok (.getfield 15, 3) := by decide +kernel
theorem dX10_begin_33 : decode mX10_begin.2.1 33 = .ok (.iconst (-1), 1) := by decide +kernel
theorem dX10_begin_34 : decode mX10_begin.2.1 34 = .ok (.invokestatic 60, 3) := by decide +kernel
theorem dX10_begin_37 : decode mX10_begin.2.1 37 = .ok (.aload_n 0, 1) := by decide +kernel
theorem dX10_begin_38 : decode mX10_begin.2.1 38 = .ok (.getfield 18, 3) := by decide +kernel
theorem dX10_begin_41 : decode mX10_begin.2.1 41 = .ok (.iconst 0, 1) := by decide +kernel
theorem dX10_begin_42 : decode mX10_begin.2.1 42 = .ok (.sipush 500, 3) := by decide +kernel
theorem dX10_begin_45 : decode mX10_begin.2.1 45 = .ok (.iastore, 1) := by decide +kernel
theorem dX10_begin_46 : decode mX10_begin.2.1 46 = .ok (.aload_n 0, 1) := by decide +kernel
theorem dX10_begin_47 : decode mX10_begin.2.1 47 = .ok (.getfield 18, 3) := by decide +kernel
theorem dX10_begin_50 : decode mX10_begin.2.1 50 = .ok (.iconst 1, 1) := by decide +kernel
theorem dX10_begin_51 : decode mX10_begin.2.1 51 = .ok (.sipush 200, 3) := by decide +kernel
theorem dX10_begin_54 : decode mX10_begin.2.1 54 = .ok (.iastore, 1) := by decide +kernel
theorem dX10_begin_55 : decode mX10_begin.2.1 55 = .ok (.aload_n 0, 1) := by decide +kernel
theorem dX10_begin_56 : decode mX10_begin.2.1 56 = .ok (.getfield 18, 3) := by decide +kernel
theorem dX10_begin_59 : decode mX10_begin.2.1 59 = .ok (.iconst 2, 1) := by decide +kernel
theorem dX10_begin_60 : decode mX10_begin.2.1 60 = .ok (.bipush 30, 2) := by decide +kernel
theorem dX10_begin_62 : decode mX10_begin.2.1 62 = .ok (.iastore, 1) := by decide +kernel
theorem dX10_begin_63 : decode mX10_begin.2.1 63 = .ok (.aload_n 0, 1) := by decide +kernel
theorem dX10_begin_64 : decode mX10_begin.2.1 64 = .ok (.getfield 18, 3) := by decide +kernel
theorem dX10_begin_67 : decode mX10_begin.2.1 67 = .ok (.iconst 3, 1) := by decide +kernel
theorem dX10_begin_68 : decode mX10_begin.2.1 68 = .ok (.iconst 3, 1) := by decide +kernel
theorem dX10_begin_69 : decode mX10_begin.2.1 69 = .ok (.iastore, 1) := by decide +kernel
theorem dX10_begin_70 : decode mX10_begin.2.1 70 = .ok (.aload_n 0, 1) := by decide +kernel
theorem dX10_begin_71 : decode mX10_begin.2.1 71 = .ok (.iconst 0, 1) := by decide +kernel
theorem dX10_begin_72 : decode mX10_begin.2.1 72 = .ok (.putfield 66, 3) := by decide +kernel
theorem dX10_begin_75 : decode mX10_begin.2.1 75 = .ok (.aload_n 0, 1) := by decide +kernel
theorem dX10_begin_76 : decode mX10_begin.2.1 76 = .ok (.iconst 0, 1) := by decide +kernel
theorem dX10_begin_77 : decode mX10_begin.2.1 77 = .ok (.putfield 70, 3) := by decide +kernel
theorem dX10_begin_80 : decode mX10_begin.2.1 80 = .ok (.aload_n 0, 1) := by decide +kernel
theorem dX10_begin_81 : decode mX10_begin.2.1 81 = .ok (.iconst 0, 1) := by decide +kernel
theorem dX10_begin_82 : decode mX10_begin.2.1 82 = .ok (.putfield 73, 3) := by decide +kernel
theorem dX10_begin_85 : decode mX10_begin.2.1 85 = .ok (.aload_n 0, 1) := by decide +kernel
theorem dX10_begin_86 : decode mX10_begin.2.1 86 = .ok (.iconst 0, 1) := by decide +kernel
theorem dX10_begin_87 : decode mX10_begin.2.1 87 = .ok (.putfield 76, 3) := by decide +kernel
theorem dX10_begin_90 : decode mX10_begin.2.1 90 = .ok (.aload_n 0, 1) := by decide +kernel
theorem dX10_begin_91 : decode mX10_begin.2.1 91 = .ok (.iload_n 1, 1) := by decide +kernel
theorem dX10_begin_92 : decode mX10_begin.2.1 92 = .ok (.putfield 79, 3) := by decide +kernel
theorem dX10_begin_95 : decode mX10_begin.2.1 95 = .ok (.aload_n 0, 1) := by decide +kernel
theorem dX10_begin_96 : decode mX10_begin.2.1 96 = .ok (.iload_n 2, 1) := by decide +kernel
theorem dX10_begin_97 : decode mX10_begin.2.1 97 = .ok (.putfield 82, 3) := by decide +kernel
theorem dX10_begin_100 : decode mX10_begin.2.1 100 = .ok (.return_, 1) := by decide +kernel
theorem dX10_leavesOut_0 : decode mX10_leavesOut.2.1 0 = .ok (.aload_n 0, 1) := by decide +kernel
theorem dX10_leavesOut_1 : decode mX10_leavesOut.2.1 1 = .ok (.getfield 79, 3) := by decide +kernel
theorem dX10_leavesOut_4 : decode mX10_leavesOut.2.1 4 = .ok (.iload_n 1, 1) := by decide +kernel
theorem dX10_leavesOut_5 : decode mX10_leavesOut.2.1 5 = .ok (.if_icmp .ne 15, 3) := by decide +kernel
theorem dX10_leavesOut_8 : decode mX10_leavesOut.2.1 8 = .ok (.aload_n 0, 1) := by decide +kernel
theorem dX10_leavesOut_9 : decode mX10_leavesOut.2.1 9 = .ok (.getfield 82, 3) := by decide +kernel
theorem dX10_leavesOut_12 : decode mX10_leavesOut.2.1 12 = .ok (.iload_n 2, 1) := by decide +kernel
theorem dX10_leavesOut_13 : decode mX10_leavesOut.2.1 13 = .ok (.if_icmp .ne 7, 3) := by decide +kernel
theorem dX10_leavesOut_16 : decode mX10_leavesOut.2.1 16 = .ok (.iconst 1, 1) := by decide +kernel
theorem dX10_leavesOut_17 : decode mX10_leavesOut.2.1 17 = .ok (.goto 4, 3) := by decide +kernel
theorem dX10_leavesOut_20 : decode mX10_leavesOut.2.1 20 = .ok (.iconst 0, 1) := by decide +kernel
theorem dX10_leavesOut_21 : decode mX10_leavesOut.2.1 21 = .ok (.ireturn, 1) := by decide +kernel
theorem dX10_ofKind_0 : decode mX10_ofKind.2.1 0 = .ok (.iconst 0, 1) := by decide +kernel
theorem dX10_ofKind_1 : decode mX10_ofKind.2.1 1 = .ok (.istore_n 2, 1) := by decide +kernel
theorem dX10_ofKind_2 : decode mX10_ofKind.2.1 2 = .ok (.iconst 0, 1) := by decide +kernel
theorem dX10_ofKind_3 : decode mX10_ofKind.2.1 3 = .ok (.istore_n 3, 1) := by decide +kernel
theorem dX10_ofKind_4 : decode mX10_ofKind.2.1 4 = .ok (.iload_n 3, 1) := by decide +kernel
theorem dX10_ofKind_5 : decode mX10_ofKind.2.1 5 = .ok (.aload_n 0, 1) := by decide +kernel
theorem dX10_ofKind_6 : decode mX10_ofKind.2.1 6 = .ok (.getfield 21, 3) := by decide +kernel
theorem dX10_ofKind_9 : decode mX10_ofKind.2.1 9 = .ok (.getfield 189, 3) := by decide +kernel
theorem dX10_ofKind_12 : decode mX10_ofKind.2.1 12 = .ok (.getfield 97, 3) := by decide +kernel
theorem dX10_ofKind_15 : decode mX10_ofKind.2.1 15 = .ok (.if_icmp .ge 31, 3) := by decide +kernel
theorem dX10_ofKind_18 : decode mX10_ofKind.2.1 18 = .ok (.aload_n 0, 1) := by decide +kernel
theorem dX10_ofKind_19 : decode mX10_ofKind.2.1 19 = .ok (.getfield 21, 3) := by decide +kernel
theorem dX10_ofKind_22 : decode mX10_ofKind.2.1 22 = .ok (.getfield 189, 3) := by decide +kernel
theorem dX10_ofKind_25 : decode mX10_ofKind.2.1 25 = .ok (.iload_n 3, 1) := by decide +kernel
theorem dX10_ofKind_26 : decode mX10_ofKind.2.1 26 = .ok (.iconst 0, 1) := by decide +kernel
theorem dX10_ofKind_27 : decode mX10_ofKind.2.1 27 = .ok (.invokevirtual 102, 3) := by decide +kernel
theorem dX10_ofKind_30 : decode mX10_ofKind.2.1 30 = .ok (.iload_n 1, 1) := by decide +kernel
theorem dX10_ofKind_31 : decode mX10_ofKind.2.1 31 = .ok (.if_icmp .ne 9, 3) := by decide +kernel
theorem dX10_ofKind_34 : decode mX10_ofKind.2.1 34 = .ok (.iload_n 2, 1) := by decide +kernel
theorem dX10_ofKind_35 : decode mX10_ofKind.2.1 35 = .ok (.iconst 1, 1) := by decide +kernel
theorem dX10_ofKind_36 : decode mX10_ofKind.2.1 36 = .ok (.iload_n 3, 1) := by decide +kernel
theorem dX10_ofKind_37 : decode mX10_ofKind.2.1 37 = .ok (.ishl, 1) := by decide +kernel
theorem dX10_ofKind_38 : decode mX10_ofKind.2.1 38 = .ok (.ior, 1) := by decide +kernel
theorem dX10_ofKind_39 : decode mX10_ofKind.2.1 39 = .ok (.istore_n 2, 1) := by decide +kernel
theorem dX10_ofKind_40 : decode mX10_ofKind.2.1 40 = .ok (.iinc 3 1, 3) := by decide +kernel
theorem dX10_ofKind_43 : decode mX10_ofKind.2.1 43 = .ok (.goto (-39), 3) := by decide +kernel
theorem dX10_ofKind_46 : decode mX10_ofKind.2.1 46 = .ok (.iload_n 2, 1) := by decide +kernel
theorem dX10_ofKind_47 : decode mX10_ofKind.2.1 47 = .ok (.ireturn, 1) := by decide +kernel
theorem dX10_takeOn_0 : decode mX10_takeOn.2.1 0 = .ok (.aload_n 0, 1) := by decide +kernel
theorem dX10_takeOn_1 : decode mX10_takeOn.2.1 1 = .ok (.getfield 9, 3) := by decide +kernel
theorem dX10_takeOn_4 : decode mX10_takeOn.2.1 4 = .ok (.iload_n 2, 1) := by decide +kernel
theorem dX10_takeOn_5 : decode mX10_takeOn.2.1 5 = .ok (.iconst 1, 1) := by decide +kernel
theorem dX10_takeOn_6 : decode mX10_takeOn.2.1 6 = .ok (.iastore, 1) := by decide +kernel
theorem dX10_takeOn_7 : decode mX10_takeOn.2.1 7 = .ok (.aload_n 0, 1) := by decide +kernel
theorem dX10_takeOn_8 : decode mX10_takeOn.2.1 8 = .ok (.getfield 15, 3) := by decide +kernel
theorem dX10_takeOn_11 : decode mX10_takeOn.2.1 11 = .ok (.iload_n 2, 1) := by decide +kernel
theorem dX10_takeOn_12 : decode mX10_takeOn.2.1 12 = .ok (.iload_n 1, 1) := by decide +kernel
theorem dX10_takeOn_13 : decode mX10_takeOn.2.1 13 = .ok (.iastore, 1) := by decide +kernel
theorem dX10_takeOn_14 : decode mX10_takeOn.2.1 14 = .ok (.aload_n 0, 1) := by decide +kernel
theorem dX10_takeOn_15 : decode mX10_takeOn.2.1 15 = .ok (.getfield 48, 3) := by decide +kernel
theorem dX10_takeOn_18 : decode mX10_takeOn.2.1 18 = .ok (.getfield 216, 3) := by decide +kernel
theorem dX10_takeOn_21 : decode mX10_takeOn.2.1 21 = .ok (.iload_n 1, 1) := by decide +kernel
theorem dX10_takeOn_22 : decode mX10_takeOn.2.1 22 = .ok (.iload_n 2, 1) := by decide +kernel
theorem dX10_takeOn_23 : decode mX10_takeOn.2.1 23 = .ok (.iastore, 1) := by decide +kernel
theorem dX10_takeOn_24 : decode mX10_takeOn.2.1 24 = .ok (.aload_n 0, 1) := by decide +kernel
theorem dX10_takeOn_25 : decode mX10_takeOn.2.1 25 = .ok (.getfield 48, 3) := by decide +kernel
theorem dX10_takeOn_28 : decode mX10_takeOn.2.1 28 = .ok (.getfield 219, 3) := by decide +kernel
theorem dX10_takeOn_31 : decode mX10_takeOn.2.1 31 = .ok (.iload_n 1, 1) := by decide +kernel
theorem dX10_takeOn_32 : decode mX10_takeOn.2.1 32 = .ok (.iconst 1, 1) := by decide +kernel
theorem dX10_takeOn_33 : decode mX10_takeOn.2.1 33 = .ok (.iastore, 1) := by decide +kernel
theorem dX10_takeOn_34 : decode mX10_takeOn.2.1 34 = .ok (.return_, 1) := by decide +kernel
theorem dX10_worksThatAre_0 : decode mX10_worksThatAre.2.1 0 = .ok (.iconst 0, 1) := by decide +kernel
theorem dX10_worksThatAre_1 : decode mX10_worksThatAre.2.1 1 = .ok (.istore_n 2, 1) := by decide +kernel
theorem dX10_worksThatAre_2 : decode mX10_worksThatAre.2.1 2 = .ok (.iconst 0, 1) := by decide +kernel
theorem dX10_worksThatAre_3 : decode mX10_worksThatAre.2.1 3 = .ok (.istore_n 3, 1) := by decide +kernel
theorem dX10_worksThatAre_4 : decode mX10_worksThatAre.2.1 4 = .ok (.iload_n 3, 1) := by decide +kernel
theorem dX10_worksThatAre_5 : decode mX10_worksThatAre.2.1 5 = .ok (.bipush 60, 2) := by decide +kernel
theorem dX10_worksThatAre_7 : decode mX10_worksThatAre.2.1 7 = .ok (.if_icmp .ge 22, 3) := by decide +kernel
theorem dX10_worksThatAre_10 : decode mX10_worksThatAre.2.1 10 = .ok (.aload_n 0, 1) := by decide +kernel
theorem dX10_worksThatAre_11 : decode mX10_worksThatAre.2.1 11 = .ok (.getfield 9, 3) := by decide +kernel
theorem dX10_worksThatAre_14 : decode mX10_worksThatAre.2.1 14 = .ok (.iload_n 3, 1) := by decide +kernel
theorem dX10_worksThatAre_15 : decode mX10_worksThatAre.2.1 15 = .ok (.iaload, 1) := by decide +kernel
theorem dX10_worksThatAre_16 : decode mX10_worksThatAre.2.1 16 = .ok (.iload_n 1, 1) := by decide +kernel
theorem dX10_worksThatAre_17 : decode mX10_worksThatAre.2.1 17 = .ok (.if_icmp .ne 6, 3) := by decide +kernel
theorem dX10_worksThatAre_20 : decode mX10_worksThatAre.2.1 20 = .ok (.iinc 2 1, 3) := by decide +kernel
theorem dX10_worksThatAre_23 : decode mX10_worksThatAre.2.1 23 = .ok (.iinc 3 1, 3) := by decide +kernel
theorem dX10_worksThatAre_26 : decode mX10_worksThatAre.2.1 26 = .ok (.goto (-22), 3) := by decide +kernel
theorem dX10_worksThatAre_29 : decode mX10_worksThatAre.2.1 29 = .ok (.iload_n 2, 1) := by decide +kernel
theorem dX10_worksThatAre_30 : decode mX10_worksThatAre.2.1 30 = .ok (.ireturn, 1) := by decide +kernel
theorem dX10_adjust_0 : decode mX10_adjust.2.1 0 = .ok (.iload_n 1, 1) := by decide +kernel
theorem dX10_adjust_1 : decode mX10_adjust.2.1 1 = .ok (.iconst 0, 1) := by decide +kernel
theorem dX10_adjust_2 : decode mX10_adjust.2.1 2 = .ok (.iconst 3, 1) := by decide +kernel
theorem dX10_adjust_3 : decode mX10_adjust.2.1 3 = .ok (.invokestatic 139, 3) := by decide +kernel
theorem dX10_adjust_6 : decode mX10_adjust.2.1 6 = .ok (.ifCond .eq 10, 3) := by decide +kernel
theorem dX10_adjust_9 : decode mX10_adjust.2.1 9 = .ok (.aload_n 0, 1) := by decide +kernel
theorem dX10_adjust_10 : decode mX10_adjust.2.1 10 = .ok (.getfield 18, 3) := by decide +kernel
theorem dX10_adjust_13 : decode mX10_adjust.2.1 13 = .ok (.iload_n 1, 1) := by decide +kernel
theorem dX10_adjust_14 : decode mX10_adjust.2.1 14 = .ok (.iload_n 2, 1) := by decide +kernel
theorem dX10_adjust_15 : decode mX10_adjust.2.1 15 = .ok (.iastore, 1) := by decide +kernel
theorem dX10_adjust_16 : decode mX10_adjust.2.1 16 = .ok (.return_, 1) := by decide +kernel
theorem dX10_bringCart_0 : decode mX10_bringCart.2.1 0 = .ok (.aload_n 0, 1) := by decide +kernel
theorem dX10_bringCart_1 : decode mX10_bringCart.2.1 1 = .ok (.iconst 1, 1) := by decide +kernel
theorem dX10_bringCart_2 : decode mX10_bringCart.2.1 2 = .ok (.iload_n 1, 1) := by decide +kernel
theorem dX10_bringCart_3 : decode mX10_bringCart.2.1 3 = .ok (.invokevirtual 143, 3) := by decide +kernel
theorem dX10_bringCart_6 : decode mX10_bringCart.2.1 6 = .ok (.ifCond .ne 11, 3) := by decide +kernel
theorem dX10_bringCart_9 : decode mX10_bringCart.2.1 9 = .ok (.aload_n 0, 1) := by decide +kernel
theorem dX10_bringCart_10 : decode mX10_bringCart.2.1 10 = .ok (.getfield 48, 3) := by decide +kernel
theorem dX10_bringCart_13 : decode mX10_bringCart.2.1 13 = .ok (.iload_n 1, 1) := by decide +kernel
theorem dX10_bringCart_14 : decode mX10_bringCart.2.1 14 = .ok (.invokevirtual 147, 3) := by decide +kernel
theorem dX10_bringCart_17 : decode mX10_bringCart.2.1 17 = .ok (.return_, 1) := by decide +kernel
theorem dX10_openWork_0 : decode mX10_openWork.2.1 0 = .ok (.iload_n 1, 1) := by decide +kernel
theorem dX10_openWork_1 : decode mX10_openWork.2.1 1 = .ok (.iconst 0, 1) := by decide +kernel
theorem dX10_openWork_2 : decode mX10_openWork.2.1 2 = .ok (.bipush 59, 2) := by decide +kernel
theorem dX10_openWork_4 : decode mX10_openWork.2.1 4 = .ok (.invokestatic 139, 3) := by decide +kernel
theorem dX10_openWork_7 : decode mX10_openWork.2.1 7 = .ok (.ifCond .eq 19, 3) := by decide +kernel
theorem dX10_openWork_10 : decode mX10_openWork.2.1 10 = .ok (.aload_n 0, 1) := by decide +kernel
theorem dX10_openWork_11 : decode mX10_openWork.2.1 11 = .ok (.iconst 2, 1) := by decide +kernel
theorem dX10_openWork_12 : decode mX10_openWork.2.1 12 = .ok (.iload_n 1, 1) := by decide +kernel
theorem dX10_openWork_13 : decode mX10_openWork.2.1 13 = .ok (.invokevirtual 143, 3) := by decide +kernel
theorem dX10_openWork_16 : decode mX10_openWork.2.1 16 = .ok (.ifCond .ne 10, 3) := by decide +kernel
theorem dX10_openWork_19 : decode mX10_openWork.2.1 19 = .ok (.aload_n 0, 1) := by decide +kernel
theorem dX10_openWork_20 : decode mX10_openWork.2.1 20 = .ok (.getfield 9, 3) := by decide +kernel
theorem dX10_openWork_23 : decode mX10_openWork.2.1 23 = .ok (.iload_n 1, 1) := by decide +kernel
theorem dX10_openWork_24 : decode mX10_openWork.2.1 24 = .ok (.iconst 0, 1) := by decide +kernel
theorem dX10_openWork_25 : decode mX10_openWork.2.1 25 = .ok (.iastore, 1) := by decide +kernel
theorem dX10_openWork_26 : decode mX10_openWork.2.1 26 = .ok (.return_, 1) := by decide +kernel
theorem dX10_goalOf_0 : decode mX10_goalOf.2.1 0 = .ok (.aload_n 0, 1) := by decide +kernel
theorem dX10_goalOf_1 : decode mX10_goalOf.2.1 1 = .ok (.getfield 21, 3) := by decide +kernel
theorem dX10_goalOf_4 : decode mX10_goalOf.2.1 4 = .ok (.getfield 182, 3) := by decide +kernel
theorem dX10_goalOf_7 : decode mX10_goalOf.2.1 7 = .ok (.iload_n 2, 1) := by decide +kernel
theorem dX10_goalOf_8 : decode mX10_goalOf.2.1 8 = .ok (.iconst 1, 1) := by decide +kernel
theorem dX10_goalOf_9 : decode mX10_goalOf.2.1 9 = .ok (.invokevirtual 102, 3) := by decide +kernel
theorem dX10_goalOf_12 : decode mX10_goalOf.2.1 12 = .ok (.istore_n 3, 1) := by decide +kernel
theorem dX10_goalOf_13 : decode mX10_goalOf.2.1 13 = .ok (.aload_n 0, 1) := by decide +kernel
theorem dX10_goalOf_14 : decode mX10_goalOf.2.1 14 = .ok (.getfield 21, 3) := by decide +kernel
theorem dX10_goalOf_17 : decode mX10_goalOf.2.1 17 = .ok (.getfield 182, 3) := by decide +kernel
theorem dX10_goalOf_20 : decode mX10_goalOf.2.1 20 = .ok (.iload_n 2, 1) := by decide +kernel
theorem dX10_goalOf_21 : decode mX10_goalOf.2.1 21 = .ok (.iconst 0, 1) := by decide +kernel
theorem dX10_goalOf_22 : decode mX10_goalOf.2.1 22 = .ok (.invokevirtual 102, 3) := by decide +kernel
theorem dX10_goalOf_25 : decode mX10_goalOf.2.1 25 = .ok (.iconst 3, 1) := by decide +kernel
theorem dX10_goalOf_26 : decode mX10_goalOf.2.1 26 = .ok (.if_icmp .ne 15, 3) := by decide +kernel
theorem dX10_goalOf_29 : decode mX10_goalOf.2.1 29 = .ok (.aload_n 0, 1) := by decide +kernel
theorem dX10_goalOf_30 : decode mX10_goalOf.2.1 30 = .ok (.getfield 25, 3) := by decide +kernel
theorem dX10_goalOf_33 : decode mX10_goalOf.2.1 33 = .ok (.iload_n 1, 1) := by decide +kernel
theorem dX10_goalOf_34 : decode mX10_goalOf.2.1 34 = .ok (.iload_n 3, 1) := by decide +kernel
theorem dX10_goalOf_35 : decode mX10_goalOf.2.1 35 = .ok (.invokevirtual 213, 3) := by decide +kernel
theorem dX10_goalOf_38 : decode mX10_goalOf.2.1 38 = .ok (.goto 4, 3) := by decide +kernel
theorem dX10_goalOf_41 : decode mX10_goalOf.2.1 41 = .ok (.iload_n 3, 1) := by decide +kernel
theorem dX10_goalOf_42 : decode mX10_goalOf.2.1 42 = .ok (.ireturn, 1) := by decide +kernel
theorem dX10_leaveWork_0 : decode mX10_leaveWork.2.1 0 = .ok (.aload_n 0, 1) := by decide +kernel
theorem dX10_leaveWork_1 : decode mX10_leaveWork.2.1 1 = .ok (.getfield 48, 3) := by decide +kernel
theorem dX10_leaveWork_4 : decode mX10_leaveWork.2.1 4 = .ok (.getfield 216, 3) := by decide +kernel
theorem dX10_leaveWork_7 : decode mX10_leaveWork.2.1 7 = .ok (.iload_n 1, 1) := by decide +kernel
theorem dX10_leaveWork_8 : decode mX10_leaveWork.2.1 8 = .ok (.iaload, 1) := by decide +kernel
theorem dX10_leaveWork_9 : decode mX10_leaveWork.2.1 9 = .ok (.istore_n 3, 1) := by decide +kernel
theorem dX10_leaveWork_10 : decode mX10_leaveWork.2.1 10 = .ok (.iload_n 3, 1) := by decide +kernel
theorem dX10_leaveWork_11 : decode mX10_leaveWork.2.1 11 = .ok (.iconst 0, 1) := by decide +kernel
theorem dX10_leaveWork_12 : decode mX10_leaveWork.2.1 12 = .ok (.bipush 59, 2) := by decide +kernel
theorem dX10_leaveWork_14 : decode mX10_leaveWork.2.1 14 = .ok (.invokestatic 139, 3) := by decide +kernel
theorem dX10_leaveWork_17 : decode mX10_leaveWork.2.1 17 = .ok (.ifCond .eq 17, 3) := by decide +kernel
theorem dX10_leaveWork_20 : decode mX10_leaveWork.2.1 20 = .ok (.aload_n 0, 1) := by decide +kernel
theorem dX10_leaveWork_21 : decode mX10_leaveWork.2.1 21 = .ok (.getfield 9, 3) := by decide +kernel
theorem dX10_leaveWork_24 : decode mX10_leaveWork.2.1 24 = .ok (.iload_n 3, 1) := by decide +kernel
theorem dX10_leaveWork_25 : decode mX10_leaveWork.2.1 25 = .ok (.iconst 0, 1) := by decide +kernel
theorem dX10_leaveWork_26 : decode mX10_leaveWork.2.1 26 = .ok (.iastore, 1) := by decide +kernel
theorem dX10_leaveWork_27 : decode mX10_leaveWork.2.1 27 = .ok (.aload_n 0, 1) := by decide +kernel
theorem dX10_leaveWork_28 : decode mX10_leaveWork.2.1 28 = .ok (.getfield 15, 3) := by decide +kernel
theorem dX10_leaveWork_31 : decode mX10_leaveWork.2.1 31 = .ok (.iload_n 3, 1) := by decide +kernel
theorem dX10_leaveWork_32 : decode mX10_leaveWork.2.1 32 = .ok (.iconst (-1), 1) := by decide +kernel
theorem dX10_leaveWork_33 : decode mX10_leaveWork.2.1 33 = .ok (.iastore, 1) := by decide +kernel
theorem dX10_leaveWork_34 : decode mX10_leaveWork.2.1 34 = .ok (.aload_n 0, 1) := by decide +kernel
theorem dX10_leaveWork_35 : decode mX10_leaveWork.2.1 35 = .ok (.getfield 48, 3) := by decide +kernel
theorem dX10_leaveWork_38 : decode mX10_leaveWork.2.1 38 = .ok (.getfield 216, 3) := by decide +kernel
theorem dX10_leaveWork_41 : decode mX10_leaveWork.2.1 41 = .ok (.iload_n 1, 1) := by decide +kernel
theorem dX10_leaveWork_42 : decode mX10_leaveWork.2.1 42 = .ok (.iconst (-1), 1) := by decide +kernel
theorem dX10_leaveWork_43 : decode mX10_leaveWork.2.1 43 = .ok (.iastore, 1) := by decide +kernel
theorem dX10_leaveWork_44 : decode mX10_leaveWork.2.1 44 = .ok (.aload_n 0, 1) := by decide +kernel
theorem dX10_leaveWork_45 : decode mX10_leaveWork.2.1 45 = .ok (.getfield 48, 3) := by decide +kernel
theorem dX10_leaveWork_48 : decode mX10_leaveWork.2.1 48 = .ok (.getfield 219, 3) := by decide +kernel
theorem dX10_leaveWork_51 : decode mX10_leaveWork.2.1 51 = .ok (.iload_n 1, 1) := by decide +kernel
theorem dX10_leaveWork_52 : decode mX10_leaveWork.2.1 52 = .ok (.iload_n 2, 1) := by decide +kernel
theorem dX10_leaveWork_53 : decode mX10_leaveWork.2.1 53 = .ok (.iastore, 1) := by decide +kernel
theorem dX10_leaveWork_54 : decode mX10_leaveWork.2.1 54 = .ok (.return_, 1) := by decide +kernel
theorem dX10_factOfCell_0 : decode mX10_factOfCell.2.1 0 = .ok (.iload_n 1, 1) := by decide +kernel
theorem dX10_factOfCell_1 : decode mX10_factOfCell.2.1 1 = .ok (.invokestatic 262, 3) := by decide +kernel
theorem dX10_factOfCell_4 : decode mX10_factOfCell.2.1 4 = .ok (.ifCond .ne 5, 3) := by decide +kernel
theorem dX10_factOfCell_7 : decode mX10_factOfCell.2.1 7 = .ok (.iconst (-1), 1) := by decide +kernel
theorem dX10_factOfCell_8 : decode mX10_factOfCell.2.1 8 = .ok (.ireturn, 1) := by decide +kernel
theorem dX10_factOfCell_9 : decode mX10_factOfCell.2.1 9 = .ok (.aload_n 0, 1) := by decide +kernel
theorem dX10_factOfCell_10 : decode mX10_factOfCell.2.1 10 = .ok (.getfield 41, 3) := by decide +kernel
theorem dX10_factOfCell_13 : decode mX10_factOfCell.2.1 13 = .ok (.iload_n 1, 1) := by decide +kernel
theorem dX10_factOfCell_14 : decode mX10_factOfCell.2.1 14 = .ok (.invokevirtual 283, 3) := by decide +kernel
theorem dX10_factOfCell_17 : decode mX10_factOfCell.2.1 17 = .ok (.istore_n 3, 1) := by decide +kernel
theorem dX10_factOfCell_18 : decode mX10_factOfCell.2.1 18 = .ok (.iload_n 2, 1) := by decide +kernel
theorem dX10_factOfCell_19 : decode mX10_factOfCell.2.1 19 = .ok (.tableswitch 204 0 10 #[57, 67, 77, 87, 97, 115, 132, 150, 168, 177, 194], 57) := by decide +kernel
theorem dX10_factOfCell_76 : decode mX10_factOfCell.2.1 76 = .ok (.aload_n 0, 1) := by decide +kernel
theorem dX10_factOfCell_77 : decode mX10_factOfCell.2.1 77 = .ok (.getfield 32, 3) := by decide +kernel
theorem dX10_factOfCell_80 : decode mX10_factOfCell.2.1 80 = .ok (.getfield 286, 3) := by decide +kernel
theorem dX10_factOfCell_83 : decode mX10_factOfCell.2.1 83 = .ok (.iload_n 1, 1) := by decide +kernel
theorem dX10_factOfCell_84 : decode mX10_factOfCell.2.1 84 = .ok (.iaload, 1) := by decide +kernel
theorem dX10_factOfCell_85 : decode mX10_factOfCell.2.1 85 = .ok (.ireturn, 1) := by decide +kernel
theorem dX10_factOfCell_86 : decode mX10_factOfCell.2.1 86 = .ok (.aload_n 0, 1) := by decide +kernel
theorem dX10_factOfCell_87 : decode mX10_factOfCell.2.1 87 = .ok (.getfield 32, 3) := by decide +kernel
theorem dX10_factOfCell_90 : decode mX10_factOfCell.2.1 90 = .ok (.getfield 277, 3) := by decide +kernel
theorem dX10_factOfCell_93 : decode mX10_factOfCell.2.1 93 = .ok (.iload_n 1, 1) := by decide +kernel
theorem dX10_factOfCell_94 : decode mX10_factOfCell.2.1 94 = .ok (.iaload, 1) := by decide +kernel
theorem dX10_factOfCell_95 : decode mX10_factOfCell.2.1 95 = .ok (.ireturn, 1) := by decide +kernel
theorem dX10_factOfCell_96 : decode mX10_factOfCell.2.1 96 = .ok (.aload_n 0, 1) := by decide +kernel
theorem dX10_factOfCell_97 : decode mX10_factOfCell.2.1 97 = .ok (.getfield 32, 3) := by decide +kernel
theorem dX10_factOfCell_100 : decode mX10_factOfCell.2.1 100 = .ok (.getfield 271, 3) := by decide +kernel
theorem dX10_factOfCell_103 : decode mX10_factOfCell.2.1 103 = .ok (.iload_n 1, 1) := by decide +kernel
theorem dX10_factOfCell_104 : decode mX10_factOfCell.2.1 104 = .ok (.iaload, 1) := by decide +kernel
theorem dX10_factOfCell_105 : decode mX10_factOfCell.2.1 105 = .ok (.ireturn, 1) := by decide +kernel
theorem dX10_factOfCell_106 : decode mX10_factOfCell.2.1 106 = .ok (.iload_n 3, 1) := by decide +kernel
theorem dX10_factOfCell_107 : decode mX10_factOfCell.2.1 107 = .ok (.ifCond .eq 7, 3) := by decide +kernel
theorem dX10_factOfCell_110 : decode mX10_factOfCell.2.1 110 = .ok (.iconst 1, 1) := by decide +kernel
theorem dX10_factOfCell_111 : decode mX10_factOfCell.2.1 111 = .ok (.goto 4, 3) := by decide +kernel
theorem dX10_factOfCell_114 : decode mX10_factOfCell.2.1 114 = .ok (.iconst 0, 1) := by decide +kernel
theorem dX10_factOfCell_115 : decode mX10_factOfCell.2.1 115 = .ok (.ireturn, 1) := by decide +kernel
theorem dX10_factOfCell_116 : decode mX10_factOfCell.2.1 116 = .ok (.iload_n 3, 1) := by decide +kernel
theorem dX10_factOfCell_117 : decode mX10_factOfCell.2.1 117 = .ok (.ifCond .eq 15, 3) := by decide +kernel
theorem dX10_factOfCell_120 : decode mX10_factOfCell.2.1 120 = .ok (.aload_n 0, 1) := by decide +kernel
theorem dX10_factOfCell_121 : decode mX10_factOfCell.2.1 121 = .ok (.getfield 41, 3) := by decide +kernel
theorem dX10_factOfCell_124 : decode mX10_factOfCell.2.1 124 = .ok (.getfield 289, 3) := by decide +kernel
theorem dX10_factOfCell_127 : decode mX10_factOfCell.2.1 127 = .ok (.iload_n 1, 1) := by decide +kernel
theorem dX10_factOfCell_128 : decode mX10_factOfCell.2.1 128 = .ok (.iaload, 1) := by decide +kernel
theorem dX10_factOfCell_129 : decode mX10_factOfCell.2.1 129 = .ok (.goto 4, 3) := by decide +kernel
theorem dX10_factOfCell_132 : decode mX10_factOfCell.2.1 132 = .ok (.iconst 0, 1) := by decide +kernel
theorem dX10_factOfCell_133 : decode mX10_factOfCell.2.1 133 = .ok (.ireturn, 1) := by decide +kernel
theorem dX10_factOfCell_134 : decode mX10_factOfCell.2.1 134 = .ok (.aload_n 0, 1) := by decide +kernel
theorem dX10_factOfCell_135 : decode mX10_factOfCell.2.1 135 = .ok (.getfield 41, 3) := by decide +kernel
theorem dX10_factOfCell_138 : decode mX10_factOfCell.2.1 138 = .ok (.iload_n 1, 1) := by decide +kernel
theorem dX10_factOfCell_139 : decode mX10_factOfCell.2.1 139 = .ok (.invokevirtual 291, 3) := by decide +kernel
theorem dX10_factOfCell_142 : decode mX10_factOfCell.2.1 142 = .ok (.ifCond .eq 7, 3) := by decide +kernel
theorem dX10_factOfCell_145 : decode mX10_factOfCell.2.1 145 = .ok (.iconst 1, 1) := by decide +kernel
theorem dX10_factOfCell_146 : decode mX10_factOfCell.2.1 146 = .ok (.goto 4, 3) := by decide +kernel
theorem dX10_factOfCell_149 : decode mX10_factOfCell.2.1 149 = .ok (.iconst 0, 1) := by decide +kernel
theorem dX10_factOfCell_150 : decode mX10_factOfCell.2.1 150 = .ok (.ireturn, 1) := by decide +kernel
theorem dX10_factOfCell_151 : decode mX10_factOfCell.2.1 151 = .ok (.iload_n 3, 1) := by decide +kernel
theorem dX10_factOfCell_152 : decode mX10_factOfCell.2.1 152 = .ok (.ifCond .eq 15, 3) := by decide +kernel
theorem dX10_factOfCell_155 : decode mX10_factOfCell.2.1 155 = .ok (.aload_n 0, 1) := by decide +kernel
theorem dX10_factOfCell_156 : decode mX10_factOfCell.2.1 156 = .ok (.getfield 41, 3) := by decide +kernel
theorem dX10_factOfCell_159 : decode mX10_factOfCell.2.1 159 = .ok (.getfield 294, 3) := by decide +kernel
theorem dX10_factOfCell_162 : decode mX10_factOfCell.2.1 162 = .ok (.iload_n 1, 1) := by decide +kernel
theorem dX10_factOfCell_163 : decode mX10_factOfCell.2.1 163 = .ok (.iaload, 1) := by decide +kernel
theorem dX10_factOfCell_164 : decode mX10_factOfCell.2.1 164 = .ok (.goto 4, 3) := by decide +kernel
theorem dX10_factOfCell_167 : decode mX10_factOfCell.2.1 167 = .ok (.iconst 0, 1) := by decide +kernel
theorem dX10_factOfCell_168 : decode mX10_factOfCell.2.1 168 = .ok (.ireturn, 1) := by decide +kernel
theorem dX10_factOfCell_169 : decode mX10_factOfCell.2.1 169 = .ok (.iload_n 3, 1) := by decide +kernel
theorem dX10_factOfCell_170 : decode mX10_factOfCell.2.1 170 = .ok (.ifCond .eq 15, 3) := by decide +kernel
theorem dX10_factOfCell_173 : decode mX10_factOfCell.2.1 173 = .ok (.aload_n 0, 1) := by decide +kernel
theorem dX10_factOfCell_174 : decode mX10_factOfCell.2.1 174 = .ok (.getfield 41, 3) := by decide +kernel
theorem dX10_factOfCell_177 : decode mX10_factOfCell.2.1 177 = .ok (.getfield 297, 3) := by decide +kernel
theorem dX10_factOfCell_180 : decode mX10_factOfCell.2.1 180 = .ok (.iload_n 1, 1) := by decide +kernel
theorem dX10_factOfCell_181 : decode mX10_factOfCell.2.1 181 = .ok (.iaload, 1) := by decide +kernel
theorem dX10_factOfCell_182 : decode mX10_factOfCell.2.1 182 = .ok (.goto 4, 3) := by decide +kernel
theorem dX10_factOfCell_185 : decode mX10_factOfCell.2.1 185 = .ok (.iconst 0, 1) := by decide +kernel
theorem dX10_factOfCell_186 : decode mX10_factOfCell.2.1 186 = .ok (.ireturn, 1) := by decide +kernel
theorem dX10_factOfCell_187 : decode mX10_factOfCell.2.1 187 = .ok (.aload_n 0, 1) := by decide +kernel
theorem dX10_factOfCell_188 : decode mX10_factOfCell.2.1 188 = .ok (.getfield 41, 3) := by decide +kernel
theorem dX10_factOfCell_191 : decode mX10_factOfCell.2.1 191 = .ok (.iload_n 1, 1) := by decide +kernel
theorem dX10_factOfCell_192 : decode mX10_factOfCell.2.1 192 = .ok (.invokevirtual 247, 3) := by decide +kernel
theorem dX10_factOfCell_195 : decode mX10_factOfCell.2.1 195 = .ok (.ireturn, 1) := by decide +kernel
theorem dX10_factOfCell_196 : decode mX10_factOfCell.2.1 196 = .ok (.iload_n 3, 1) := by decide +kernel
theorem dX10_factOfCell_197 : decode mX10_factOfCell.2.1 197 = .ok (.ifCond .eq 14, 3) := by decide +kernel
theorem dX10_factOfCell_200 : decode mX10_factOfCell.2.1 200 = .ok (.aload_n 0, 1) := by decide +kernel
theorem dX10_factOfCell_201 : decode mX10_factOfCell.2.1 201 = .ok (.getfield 41, 3) := by decide +kernel
theorem dX10_factOfCell_204 : decode mX10_factOfCell.2.1 204 = .ok (.iload_n 1, 1) := by decide +kernel
theorem dX10_factOfCell_205 : decode mX10_factOfCell.2.1 205 = .ok (.invokevirtual 300, 3) := by decide +kernel
theorem dX10_factOfCell_208 : decode mX10_factOfCell.2.1 208 = .ok (.goto 4, 3) := by decide +kernel
theorem dX10_factOfCell_211 : decode mX10_factOfCell.2.1 211 = .ok (.iconst 0, 1) := by decide +kernel
theorem dX10_factOfCell_212 : decode mX10_factOfCell.2.1 212 = .ok (.ireturn, 1) := by decide +kernel
theorem dX10_factOfCell_213 : decode mX10_factOfCell.2.1 213 = .ok (.aload_n 0, 1) := by decide +kernel
theorem dX10_factOfCell_214 : decode mX10_factOfCell.2.1 214 = .ok (.getfield 41, 3) := by decide +kernel
theorem dX10_factOfCell_217 : decode mX10_factOfCell.2.1 217 = .ok (.getfield 303, 3) := by decide +kernel
theorem dX10_factOfCell_220 : decode mX10_factOfCell.2.1 220 = .ok (.iload_n 1, 1) := by decide +kernel
theorem dX10_factOfCell_221 : decode mX10_factOfCell.2.1 221 = .ok (.iaload, 1) := by decide +kernel
theorem dX10_factOfCell_222 : decode mX10_factOfCell.2.1 222 = .ok (.ireturn, 1) := by decide +kernel
theorem dX10_factOfCell_223 : decode mX10_factOfCell.2.1 223 = .ok (.iconst (-1), 1) := by decide +kernel
theorem dX10_factOfCell_224 : decode mX10_factOfCell.2.1 224 = .ok (.ireturn, 1) := by decide +kernel
theorem dX10_gatherFacts_0 : decode mX10_gatherFacts.2.1 0 = .ok (.iload_n 1, 1) := by decide +kernel
theorem dX10_gatherFacts_1 : decode mX10_gatherFacts.2.1 1 = .ok (.invokestatic 262, 3) := by decide +kernel
theorem dX10_gatherFacts_4 : decode mX10_gatherFacts.2.1 4 = .ok (.ifCond .eq 10, 3) := by decide +kernel
theorem dX10_gatherFacts_7 : decode mX10_gatherFacts.2.1 7 = .ok (.aload_n 2, 1) := by decide +kernel
theorem dX10_gatherFacts_8 : decode mX10_gatherFacts.2.1 8 = .ok (.arraylength, 1) := by decide +kernel
theorem dX10_gatherFacts_9 : decode mX10_gatherFacts.2.1 9 = .ok (.bipush 8, 2) := by decide +kernel
theorem dX10_gatherFacts_11 : decode mX10_gatherFacts.2.1 11 = .ok (.if_icmp .ge 4, 3) := by decide +kernel
theorem dX10_gatherFacts_14 : decode mX10_gatherFacts.2.1 14 = .ok (.return_, 1) := by decide +kernel
theorem dX10_gatherFacts_15 : decode mX10_gatherFacts.2.1 15 = .ok (.aload_n 2, 1) := by decide +kernel
theorem dX10_gatherFacts_16 : decode mX10_gatherFacts.2.1 16 = .ok (.iconst 0, 1) := by decide +kernel
theorem dX10_gatherFacts_17 : decode mX10_gatherFacts.2.1 17 = .ok (.aload_n 0, 1) := by decide +kernel
theorem dX10_gatherFacts_18 : decode mX10_gatherFacts.2.1 18 = .ok (.getfield 41, 3) := by decide +kernel
theorem dX10_gatherFacts_21 : decode mX10_gatherFacts.2.1 21 = .ok (.iload_n 1, 1) := by decide +kernel
theorem dX10_gatherFacts_22 : decode mX10_gatherFacts.2.1 22 = .ok (.invokevirtual 300, 3) := by decide +kernel
theorem dX10_gatherFacts_25 : decode mX10_gatherFacts.2.1 25 = .ok (.iastore, 1) := by decide +kernel
theorem dX10_gatherFacts_26 : decode mX10_gatherFacts.2.1 26 = .ok (.aload_n 2, 1) := by decide +kernel
theorem dX10_gatherFacts_27 : decode mX10_gatherFacts.2.1 27 = .ok (.iconst 1, 1) := by decide +kernel
theorem dX10_gatherFacts_28 : decode mX10_gatherFacts.2.1 28 = .ok (.aload_n 0, 1) := by decide +kernel
theorem dX10_gatherFacts_29 : decode mX10_gatherFacts.2.1 29 = .ok (.getfield 32, 3) := by decide +kernel
theorem dX10_gatherFacts_32 : decode mX10_gatherFacts.2.1 32 = .ok (.getfield 277, 3) := by decide +kernel
theorem dX10_gatherFacts_35 : decode mX10_gatherFacts.2.1 35 = .ok (.iload_n 1, 1) := by decide +kernel
theorem dX10_gatherFacts_36 : decode mX10_gatherFacts.2.1 36 = .ok (.iaload, 1) := by decide +kernel
theorem dX10_gatherFacts_37 : decode mX10_gatherFacts.2.1 37 = .ok (.iastore, 1) := by decide +kernel
theorem dX10_gatherFacts_38 : decode mX10_gatherFacts.2.1 38 = .ok (.aload_n 2, 1) := by decide +kernel
theorem dX10_gatherFacts_39 : decode mX10_gatherFacts.2.1 39 = .ok (.iconst 2, 1) := by decide +kernel
theorem dX10_gatherFacts_40 : decode mX10_gatherFacts.2.1 40 = .ok (.aload_n 0, 1) := by decide +kernel
theorem dX10_gatherFacts_41 : decode mX10_gatherFacts.2.1 41 = .ok (.getfield 32, 3) := by decide +kernel
theorem dX10_gatherFacts_44 : decode mX10_gatherFacts.2.1 44 = .ok (.getfield 271, 3) := by decide +kernel
theorem dX10_gatherFacts_47 : decode mX10_gatherFacts.2.1 47 = .ok (.iload_n 1, 1) := by decide +kernel
theorem dX10_gatherFacts_48 : decode mX10_gatherFacts.2.1 48 = .ok (.iaload, 1) := by decide +kernel
theorem dX10_gatherFacts_49 : decode mX10_gatherFacts.2.1 49 = .ok (.iastore, 1) := by decide +kernel
theorem dX10_gatherFacts_50 : decode mX10_gatherFacts.2.1 50 = .ok (.aload_n 2, 1) := by decide +kernel
theorem dX10_gatherFacts_51 : decode mX10_gatherFacts.2.1 51 = .ok (.iconst 3, 1) := by decide +kernel
theorem dX10_gatherFacts_52 : decode mX10_gatherFacts.2.1 52 = .ok (.aload_n 0, 1) := by decide +kernel
theorem dX10_gatherFacts_53 : decode mX10_gatherFacts.2.1 53 = .ok (.getfield 41, 3) := by decide +kernel
theorem dX10_gatherFacts_56 : decode mX10_gatherFacts.2.1 56 = .ok (.getfield 294, 3) := by decide +kernel
theorem dX10_gatherFacts_59 : decode mX10_gatherFacts.2.1 59 = .ok (.iload_n 1, 1) := by decide +kernel
theorem dX10_gatherFacts_60 : decode mX10_gatherFacts.2.1 60 = .ok (.iaload, 1) := by decide +kernel
theorem dX10_gatherFacts_61 : decode mX10_gatherFacts.2.1 61 = .ok (.iastore, 1) := by decide +kernel
theorem dX10_gatherFacts_62 : decode mX10_gatherFacts.2.1 62 = .ok (.aload_n 2, 1) := by decide +kernel
theorem dX10_gatherFacts_63 : decode mX10_gatherFacts.2.1 63 = .ok (.iconst 4, 1) := by decide +kernel
theorem dX10_gatherFacts_64 : decode mX10_gatherFacts.2.1 64 = .ok (.aload_n 0, 1) := by decide +kernel
theorem dX10_gatherFacts_65 : decode mX10_gatherFacts.2.1 65 = .ok (.getfield 41, 3) := by decide +kernel
theorem dX10_gatherFacts_68 : decode mX10_gatherFacts.2.1 68 = .ok (.getfield 289, 3) := by decide +kernel
theorem dX10_gatherFacts_71 : decode mX10_gatherFacts.2.1 71 = .ok (.iload_n 1, 1) := by decide +kernel
theorem dX10_gatherFacts_72 : decode mX10_gatherFacts.2.1 72 = .ok (.iaload, 1) := by decide +kernel
theorem dX10_gatherFacts_73 : decode mX10_gatherFacts.2.1 73 = .ok (.iastore, 1) := by decide +kernel
theorem dX10_gatherFacts_74 : decode mX10_gatherFacts.2.1 74 = .ok (.aload_n 2, 1) := by decide +kernel
theorem dX10_gatherFacts_75 : decode mX10_gatherFacts.2.1 75 = .ok (.iconst 5, 1) := by decide +kernel
theorem dX10_gatherFacts_76 : decode mX10_gatherFacts.2.1 76 = .ok (.aload_n 0, 1) := by decide +kernel
theorem dX10_gatherFacts_77 : decode mX10_gatherFacts.2.1 77 = .ok (.getfield 41, 3) := by decide +kernel
theorem dX10_gatherFacts_80 : decode mX10_gatherFacts.2.1 80 = .ok (.iload_n 1, 1) := by decide +kernel
theorem dX10_gatherFacts_81 : decode mX10_gatherFacts.2.1 81 = .ok (.invokevirtual 291, 3) := by decide +kernel
theorem dX10_gatherFacts_84 : decode mX10_gatherFacts.2.1 84 = .ok (.ifCond .eq 7, 3) := by decide +kernel
theorem dX10_gatherFacts_87 : decode mX10_gatherFacts.2.1 87 = .ok (.iconst 1, 1) := by decide +kernel
theorem dX10_gatherFacts_88 : decode mX10_gatherFacts.2.1 88 = .ok (.goto 4, 3) := by decide +kernel
theorem dX10_gatherFacts_91 : decode mX10_gatherFacts.2.1 91 = .ok (.iconst 0, 1) := by decide +kernel
theorem dX10_gatherFacts_92 : decode mX10_gatherFacts.2.1 92 = .ok (.iastore, 1) := by decide +kernel
theorem dX10_gatherFacts_93 : decode mX10_gatherFacts.2.1 93 = .ok (.aload_n 2, 1) := by decide +kernel
theorem dX10_gatherFacts_94 : decode mX10_gatherFacts.2.1 94 = .ok (.bipush 6, 2) := by decide +kernel
theorem dX10_gatherFacts_96 : decode mX10_gatherFacts.2.1 96 = .ok (.aload_n 0, 1) := by decide +kernel
theorem dX10_gatherFacts_97 : decode mX10_gatherFacts.2.1 97 = .ok (.getfield 21, 3) := by decide +kernel
theorem dX10_gatherFacts_100 : decode mX10_gatherFacts.2.1 100 = .ok (.aload_n 0, 1) := by decide +kernel
theorem dX10_gatherFacts_101 : decode mX10_gatherFacts.2.1 101 = .ok (.getfield 66, 3) := by decide +kernel
theorem dX10_gatherFacts_104 : decode mX10_gatherFacts.2.1 104 = .ok (.invokevirtual 308, 3) := by decide +kernel
theorem dX10_gatherFacts_107 : decode mX10_gatherFacts.2.1 107 = .ok (.iastore, 1) := by decide +kernel
theorem dX10_gatherFacts_108 : decode mX10_gatherFacts.2.1 108 = .ok (.aload_n 2, 1) := by decide +kernel
theorem dX10_gatherFacts_109 : decode mX10_gatherFacts.2.1 109 = .ok (.bipush 7, 2) := by decide +kernel
theorem dX10_gatherFacts_111 : decode mX10_gatherFacts.2.1 111 = .ok (.aload_n 0, 1) := by decide +kernel
theorem dX10_gatherFacts_112 : decode mX10_gatherFacts.2.1 112 = .ok (.getfield 41, 3) := by decide +kernel
theorem dX10_gatherFacts_115 : decode mX10_gatherFacts.2.1 115 = .ok (.getfield 297, 3) := by decide +kernel
theorem dX10_gatherFacts_118 : decode mX10_gatherFacts.2.1 118 = .ok (.iload_n 1, 1) := by decide +kernel
theorem dX10_gatherFacts_119 : decode mX10_gatherFacts.2.1 119 = .ok (.iaload, 1) := by decide +kernel
theorem dX10_gatherFacts_120 : decode mX10_gatherFacts.2.1 120 = .ok (.iastore, 1) := by decide +kernel
theorem dX10_gatherFacts_121 : decode mX10_gatherFacts.2.1 121 = .ok (.return_, 1) := by decide +kernel
theorem dX10_stateOfWork_0 : decode mX10_stateOfWork.2.1 0 = .ok (.iload_n 1, 1) := by decide +kernel
theorem dX10_stateOfWork_1 : decode mX10_stateOfWork.2.1 1 = .ok (.iconst 0, 1) := by decide +kernel
theorem dX10_stateOfWork_2 : decode mX10_stateOfWork.2.1 2 = .ok (.bipush 59, 2) := by decide +kernel
theorem dX10_stateOfWork_4 : decode mX10_stateOfWork.2.1 4 = .ok (.invokestatic 139, 3) := by decide +kernel
theorem dX10_stateOfWork_7 : decode mX10_stateOfWork.2.1 7 = .ok (.ifCond .eq 12, 3) := by decide +kernel
theorem dX10_stateOfWork_10 : decode mX10_stateOfWork.2.1 10 = .ok (.aload_n 0, 1) := by decide +kernel
theorem dX10_stateOfWork_11 : decode mX10_stateOfWork.2.1 11 = .ok (.getfield 9, 3) := by decide +kernel
theorem dX10_stateOfWork_14 : decode mX10_stateOfWork.2.1 14 = .ok (.iload_n 1, 1) := by decide +kernel
theorem dX10_stateOfWork_15 : decode mX10_stateOfWork.2.1 15 = .ok (.iaload, 1) := by decide +kernel
theorem dX10_stateOfWork_16 : decode mX10_stateOfWork.2.1 16 = .ok (.goto 4, 3) := by decide +kernel
theorem dX10_stateOfWork_19 : decode mX10_stateOfWork.2.1 19 = .ok (.iconst (-1), 1) := by decide +kernel
theorem dX10_stateOfWork_20 : decode mX10_stateOfWork.2.1 20 = .ok (.ireturn, 1) := by decide +kernel
theorem dX10_doerOfWork_0 : decode mX10_doerOfWork.2.1 0 = .ok (.iload_n 1, 1) := by decide +kernel
theorem dX10_doerOfWork_1 : decode mX10_doerOfWork.2.1 1 = .ok (.iconst 0, 1) := by decide +kernel
theorem dX10_doerOfWork_2 : decode mX10_doerOfWork.2.1 2 = .ok (.bipush 59, 2) := by decide +kernel
theorem dX10_doerOfWork_4 : decode mX10_doerOfWork.2.1 4 = .ok (.invokestatic 139, 3) := by decide +kernel
theorem dX10_doerOfWork_7 : decode mX10_doerOfWork.2.1 7 = .ok (.ifCond .eq 12, 3) := by decide +kernel
theorem dX10_doerOfWork_10 : decode mX10_doerOfWork.2.1 10 = .ok (.aload_n 0, 1) := by decide +kernel
theorem dX10_doerOfWork_11 : decode mX10_doerOfWork.2.1 11 = .ok (.getfield 15, 3) := by decide +kernel
theorem dX10_doerOfWork_14 : decode mX10_doerOfWork.2.1 14 = .ok (.iload_n 1, 1) := by decide +kernel
theorem dX10_doerOfWork_15 : decode mX10_doerOfWork.2.1 15 = .ok (.iaload, 1) := by decide +kernel
theorem dX10_doerOfWork_16 : decode mX10_doerOfWork.2.1 16 = .ok (.goto 4, 3) := by decide +kernel
theorem dX10_doerOfWork_19 : decode mX10_doerOfWork.2.1 19 = .ok (.iconst (-1), 1) := by decide +kernel
theorem dX10_doerOfWork_20 : decode mX10_doerOfWork.2.1 20 = .ok (.ireturn, 1) := by decide +kernel
theorem dX10_hear_0 : decode mX10_hear.2.1 0 = .ok (.aload_n 0, 1) := by decide +kernel
theorem dX10_hear_1 : decode mX10_hear.2.1 1 = .ok (.getfield 21, 3) := by decide +kernel
theorem dX10_hear_4 : decode mX10_hear.2.1 4 = .ok (.getfield 91, 3) := by decide +kernel
theorem dX10_hear_7 : decode mX10_hear.2.1 7 = .ok (.iload_n 1, 1) := by decide +kernel
theorem dX10_hear_8 : decode mX10_hear.2.1 8 = .ok (.iconst 2, 1) := by decide +kernel
theorem dX10_hear_9 : decode mX10_hear.2.1 9 = .ok (.invokevirtual 102, 3) := by decide +kernel
theorem dX10_hear_12 : decode mX10_hear.2.1 12 = .ok (.istore_n 2, 1) := by decide +kernel
theorem dX10_hear_13 : decode mX10_hear.2.1 13 = .ok (.aload_n 0, 1) := by decide +kernel
theorem dX10_hear_14 : decode mX10_hear.2.1 14 = .ok (.getfield 21, 3) := by decide +kernel
theorem dX10_hear_17 : decode mX10_hear.2.1 17 = .ok (.getfield 91, 3) := by decide +kernel
theorem dX10_hear_20 : decode mX10_hear.2.1 20 = .ok (.iload_n 1, 1) := by decide +kernel
theorem dX10_hear_21 : decode mX10_hear.2.1 21 = .ok (.iconst 3, 1) := by decide +kernel
theorem dX10_hear_22 : decode mX10_hear.2.1 22 = .ok (.invokevirtual 102, 3) := by decide +kernel
theorem dX10_hear_25 : decode mX10_hear.2.1 25 = .ok (.istore_n 3, 1) := by decide +kernel
theorem dX10_hear_26 : decode mX10_hear.2.1 26 = .ok (.aload_n 0, 1) := by decide +kernel
theorem dX10_hear_27 : decode mX10_hear.2.1 27 = .ok (.getfield 21, 3) := by decide +kernel
theorem dX10_hear_30 : decode mX10_hear.2.1 30 = .ok (.getfield 91, 3) := by decide +kernel
theorem dX10_hear_33 : decode mX10_hear.2.1 33 = .ok (.iload_n 1, 1) := by decide +kernel
theorem dX10_hear_34 : decode mX10_hear.2.1 34 = .ok (.iconst 1, 1) := by decide +kernel
theorem dX10_hear_35 : decode mX10_hear.2.1 35 = .ok (.invokevirtual 102, 3) := by decide +kernel
theorem dX10_hear_38 : decode mX10_hear.2.1 38 = .ok (.tableswitch 208 0 11 #[62, 86, 208, 95, 103, 114, 122, 135, 148, 163, 175, 187], 62) := by decide +kernel
theorem dX10_hear_100 : decode mX10_hear.2.1 100 = .ok (.aload_n 0, 1) := by decide +kernel
theorem dX10_hear_101 : decode mX10_hear.2.1 101 = .ok (.getfield 32, 3) := by decide +kernel
theorem dX10_hear_104 : decode mX10_hear.2.1 104 = .ok (.iload_n 2, 1) := by decide +kernel
theorem dX10_hear_105 : decode mX10_hear.2.1 105 = .ok (.iload_n 3, 1) := by decide +kernel
theorem dX10_hear_106 : decode mX10_hear.2.1 106 = .ok (.aload_n 0, 1) := by decide +kernel
theorem dX10_hear_107 : decode mX10_hear.2.1 107 = .ok (.getfield 21, 3) := by decide +kernel
theorem dX10_hear_110 : decode mX10_hear.2.1 110 = .ok (.getfield 91, 3) := by decide +kernel
theorem dX10_hear_113 : decode mX10_hear.2.1 113 = .ok (.iload_n 1, 1) := by decide +kernel
theorem dX10_hear_114 : decode mX10_hear.2.1 114 = .ok (.iconst 4, 1) := by decide +kernel
theorem dX10_hear_115 : decode mX10_hear.2.1 115 = .ok (.invokevirtual 102, 3) := by decide +kernel
theorem dX10_hear_118 : decode mX10_hear.2.1 118 = .ok (.invokevirtual 110, 3) := by decide +kernel
theorem dX10_hear_121 : decode mX10_hear.2.1 121 = .ok (.goto 125, 3) := by decide +kernel
theorem dX10_hear_124 : decode mX10_hear.2.1 124 = .ok (.aload_n 0, 1) := by decide +kernel
theorem dX10_hear_125 : decode mX10_hear.2.1 125 = .ok (.iload_n 2, 1) := by decide +kernel
theorem dX10_hear_126 : decode mX10_hear.2.1 126 = .ok (.iload_n 3, 1) := by decide +kernel
theorem dX10_hear_127 : decode mX10_hear.2.1 127 = .ok (.invokevirtual 114, 3) := by decide +kernel
theorem dX10_hear_130 : decode mX10_hear.2.1 130 = .ok (.goto 116, 3) := by decide +kernel
theorem dX10_hear_133 : decode mX10_hear.2.1 133 = .ok (.aload_n 0, 1) := by decide +kernel
theorem dX10_hear_134 : decode mX10_hear.2.1 134 = .ok (.iload_n 2, 1) := by decide +kernel
theorem dX10_hear_135 : decode mX10_hear.2.1 135 = .ok (.invokevirtual 117, 3) := by decide +kernel
theorem dX10_hear_138 : decode mX10_hear.2.1 138 = .ok (.goto 108, 3) := by decide +kernel
theorem dX10_hear_141 : decode mX10_hear.2.1 141 = .ok (.aload_n 0, 1) := by decide +kernel
theorem dX10_hear_142 : decode mX10_hear.2.1 142 = .ok (.getfield 48, 3) := by decide +kernel
theorem dX10_hear_145 : decode mX10_hear.2.1 145 = .ok (.iload_n 2, 1) := by decide +kernel
theorem dX10_hear_146 : decode mX10_hear.2.1 146 = .ok (.invokevirtual 120, 3) := by decide +kernel
theorem dX10_hear_149 : decode mX10_hear.2.1 149 = .ok (.goto 97, 3) := by decide +kernel
theorem dX10_hear_152 : decode mX10_hear.2.1 152 = .ok (.aload_n 0, 1) := by decide +kernel
theorem dX10_hear_153 : decode mX10_hear.2.1 153 = .ok (.iload_n 2, 1) := by decide +kernel
theorem dX10_hear_154 : decode mX10_hear.2.1 154 = .ok (.invokevirtual 123, 3) := by decide +kernel
theorem dX10_hear_157 : decode mX10_hear.2.1 157 = .ok (.goto 89, 3) := by decide +kernel
theorem dX10_hear_160 : decode mX10_hear.2.1 160 = .ok (.aload_n 0, 1) := by decide +kernel
theorem dX10_hear_161 : decode mX10_hear.2.1 161 = .ok (.dup, 1) := by decide +kernel
theorem dX10_hear_162 : decode mX10_hear.2.1 162 = .ok (.getfield 76, 3) := by decide +kernel
theorem dX10_hear_165 : decode mX10_hear.2.1 165 = .ok (.iconst 1, 1) := by decide +kernel
theorem dX10_hear_166 : decode mX10_hear.2.1 166 = .ok (.iadd, 1) := by decide +kernel
theorem dX10_hear_167 : decode mX10_hear.2.1 167 = .ok (.putfield 76, 3) := by decide +kernel
theorem dX10_hear_170 : decode mX10_hear.2.1 170 = .ok (.goto 76, 3) := by decide +kernel
theorem dX10_hear_173 : decode mX10_hear.2.1 173 = .ok (.aload_n 0, 1) := by decide +kernel
theorem dX10_hear_174 : decode mX10_hear.2.1 174 = .ok (.dup, 1) := by decide +kernel
theorem dX10_hear_175 : decode mX10_hear.2.1 175 = .ok (.getfield 73, 3) := by decide +kernel
theorem dX10_hear_178 : decode mX10_hear.2.1 178 = .ok (.iconst 1, 1) := by decide +kernel
theorem dX10_hear_179 : decode mX10_hear.2.1 179 = .ok (.iadd, 1) := by decide +kernel
theorem dX10_hear_180 : decode mX10_hear.2.1 180 = .ok (.putfield 73, 3) := by decide +kernel
theorem dX10_hear_183 : decode mX10_hear.2.1 183 = .ok (.goto 63, 3) := by decide +kernel
theorem dX10_hear_186 : decode mX10_hear.2.1 186 = .ok (.aload_n 0, 1) := by decide +kernel
theorem dX10_hear_187 : decode mX10_hear.2.1 187 = .ok (.getfield 41, 3) := by decide +kernel
theorem dX10_hear_190 : decode mX10_hear.2.1 190 = .ok (.iload_n 2, 1) := by decide +kernel
theorem dX10_hear_191 : decode mX10_hear.2.1 191 = .ok (.aload_n 0, 1) := by decide +kernel
theorem dX10_hear_192 : decode mX10_hear.2.1 192 = .ok (.getfield 73, 3) := by decide +kernel
theorem dX10_hear_195 : decode mX10_hear.2.1 195 = .ok (.invokevirtual 126, 3) := by decide +kernel
theorem dX10_hear_198 : decode mX10_hear.2.1 198 = .ok (.goto 48, 3) := by decide +kernel
theorem dX10_hear_201 : decode mX10_hear.2.1 201 = .ok (.aload_n 0, 1) := by decide +kernel
theorem dX10_hear_202 : decode mX10_hear.2.1 202 = .ok (.getfield 41, 3) := by decide +kernel
theorem dX10_hear_205 : decode mX10_hear.2.1 205 = .ok (.iload_n 2, 1) := by decide +kernel
theorem dX10_hear_206 : decode mX10_hear.2.1 206 = .ok (.iload_n 3, 1) := by decide +kernel
theorem dX10_hear_207 : decode mX10_hear.2.1 207 = .ok (.invokevirtual 129, 3) := by decide +kernel
theorem dX10_hear_210 : decode mX10_hear.2.1 210 = .ok (.goto 36, 3) := by decide +kernel
theorem dX10_hear_213 : decode mX10_hear.2.1 213 = .ok (.aload_n 0, 1) := by decide +kernel
theorem dX10_hear_214 : decode mX10_hear.2.1 214 = .ok (.getfield 41, 3) := by decide +kernel
theorem dX10_hear_217 : decode mX10_hear.2.1 217 = .ok (.iload_n 2, 1) := by decide +kernel
theorem dX10_hear_218 : decode mX10_hear.2.1 218 = .ok (.iload_n 3, 1) := by decide +kernel
theorem dX10_hear_219 : decode mX10_hear.2.1 219 = .ok (.invokevirtual 132, 3) := by decide +kernel
theorem dX10_hear_222 : decode mX10_hear.2.1 222 = .ok (.goto 24, 3) := by decide +kernel
theorem dX10_hear_225 : decode mX10_hear.2.1 225 = .ok (.aload_n 0, 1) := by decide +kernel
theorem dX10_hear_226 : decode mX10_hear.2.1 226 = .ok (.getfield 41, 3) := by decide +kernel
theorem dX10_hear_229 : decode mX10_hear.2.1 229 = .ok (.iload_n 2, 1) := by decide +kernel
theorem dX10_hear_230 : decode mX10_hear.2.1 230 = .ok (.iload_n 3, 1) := by decide +kernel
theorem dX10_hear_231 : decode mX10_hear.2.1 231 = .ok (.iconst 1, 1) := by decide +kernel
theorem dX10_hear_232 : decode mX10_hear.2.1 232 = .ok (.if_icmp .ne 7, 3) := by decide +kernel
theorem dX10_hear_235 : decode mX10_hear.2.1 235 = .ok (.iconst 1, 1) := by decide +kernel
theorem dX10_hear_236 : decode mX10_hear.2.1 236 = .ok (.goto 4, 3) := by decide +kernel
theorem dX10_hear_239 : decode mX10_hear.2.1 239 = .ok (.iconst 0, 1) := by decide +kernel
theorem dX10_hear_240 : decode mX10_hear.2.1 240 = .ok (.invokevirtual 135, 3) := by decide +kernel
theorem dX10_hear_243 : decode mX10_hear.2.1 243 = .ok (.goto 3, 3) := by decide +kernel
theorem dX10_hear_246 : decode mX10_hear.2.1 246 = .ok (.return_, 1) := by decide +kernel
theorem dX10_cheapest_0 : decode mX10_cheapest.2.1 0 = .ok (.iconst (-1), 1) := by decide +kernel
theorem dX10_cheapest_1 : decode mX10_cheapest.2.1 1 = .ok (.istore_n 3, 1) := by decide +kernel
theorem dX10_cheapest_2 : decode mX10_cheapest.2.1 2 = .ok (.iconst 0, 1) := by decide +kernel
theorem dX10_cheapest_3 : decode mX10_cheapest.2.1 3 = .ok (.istore 4, 2) := by decide +kernel
theorem dX10_cheapest_5 : decode mX10_cheapest.2.1 5 = .ok (.iconst 0, 1) := by decide +kernel
theorem dX10_cheapest_6 : decode mX10_cheapest.2.1 6 = .ok (.istore 5, 2) := by decide +kernel
theorem dX10_cheapest_8 : decode mX10_cheapest.2.1 8 = .ok (.iload 5, 2) := by decide +kernel
theorem dX10_cheapest_10 : decode mX10_cheapest.2.1 10 = .ok (.bipush 8, 2) := by decide +kernel
theorem dX10_cheapest_12 : decode mX10_cheapest.2.1 12 = .ok (.if_icmp .ge 79, 3) := by decide +kernel
theorem dX10_cheapest_15 : decode mX10_cheapest.2.1 15 = .ok (.iload_n 1, 1) := by decide +kernel
theorem dX10_cheapest_16 : decode mX10_cheapest.2.1 16 = .ok (.iconst 1, 1) := by decide +kernel
theorem dX10_cheapest_17 : decode mX10_cheapest.2.1 17 = .ok (.iload 5, 2) := by decide +kernel
theorem dX10_cheapest_19 : decode mX10_cheapest.2.1 19 = .ok (.ishl, 1) := by decide +kernel
theorem dX10_cheapest_20 : decode mX10_cheapest.2.1 20 = .ok (.iand, 1) := by decide +kernel
theorem dX10_cheapest_21 : decode mX10_cheapest.2.1 21 = .ok (.ifCond .eq 13, 3) := by decide +kernel
theorem dX10_cheapest_24 : decode mX10_cheapest.2.1 24 = .ok (.aload_n 0, 1) := by decide +kernel
theorem dX10_cheapest_25 : decode mX10_cheapest.2.1 25 = .ok (.iload 5, 2) := by decide +kernel
theorem dX10_cheapest_27 : decode mX10_cheapest.2.1 27 = .ok (.iload_n 2, 1) := by decide +kernel
theorem dX10_cheapest_28 : decode mX10_cheapest.2.1 28 = .ok (.invokevirtual 204, 3) := by decide +kernel
theorem dX10_cheapest_31 : decode mX10_cheapest.2.1 31 = .ok (.goto 4, 3) := by decide +kernel
theorem dX10_cheapest_34 : decode mX10_cheapest.2.1 34 = .ok (.iconst (-1), 1) := by decide +kernel
theorem dX10_cheapest_35 : decode mX10_cheapest.2.1 35 = .ok (.istore 6, 2) := by decide +kernel
theorem dX10_cheapest_37 : decode mX10_cheapest.2.1 37 = .ok (.aload_n 0, 1) := by decide +kernel
theorem dX10_cheapest_38 : decode mX10_cheapest.2.1 38 = .ok (.getfield 25, 3) := by decide +kernel
theorem dX10_cheapest_41 : decode mX10_cheapest.2.1 41 = .ok (.iload 5, 2) := by decide +kernel
theorem dX10_cheapest_43 : decode mX10_cheapest.2.1 43 = .ok (.iload 6, 2) := by decide +kernel
theorem dX10_cheapest_45 : decode mX10_cheapest.2.1 45 = .ok (.invokevirtual 207, 3) := by decide +kernel
theorem dX10_cheapest_48 : decode mX10_cheapest.2.1 48 = .ok (.ifCond .ne 6, 3) := by decide +kernel
theorem dX10_cheapest_51 : decode mX10_cheapest.2.1 51 = .ok (.goto 34, 3) := by decide +kernel
theorem dX10_cheapest_54 : decode mX10_cheapest.2.1 54 = .ok (.aload_n 0, 1) := by decide +kernel
theorem dX10_cheapest_55 : decode mX10_cheapest.2.1 55 = .ok (.getfield 25, 3) := by decide +kernel
theorem dX10_cheapest_58 : decode mX10_cheapest.2.1 58 = .ok (.iload 5, 2) := by decide +kernel
theorem dX10_cheapest_60 : decode mX10_cheapest.2.1 60 = .ok (.iload 6, 2) := by decide +kernel
theorem dX10_cheapest_62 : decode mX10_cheapest.2.1 62 = .ok (.invokevirtual 210, 3) := by decide +kernel
theorem dX10_cheapest_65 : decode mX10_cheapest.2.1 65 = .ok (.istore 7, 2) := by decide +kernel
theorem dX10_cheapest_67 : decode mX10_cheapest.2.1 67 = .ok (.iload_n 3, 1) := by decide +kernel
theorem dX10_cheapest_68 : decode mX10_cheapest.2.1 68 = .ok (.ifCond .lt 10, 3) := by decide +kernel
theorem dX10_cheapest_71 : decode mX10_cheapest.2.1 71 = .ok (.iload 7, 2) := by decide +kernel
theorem dX10_cheapest_73 : decode mX10_cheapest.2.1 73 = .ok (.iload 4, 2) := by decide +kernel
theorem dX10_cheapest_75 : decode mX10_cheapest.2.1 75 = .ok (.if_icmp .ge 10, 3) := by decide +kernel
theorem dX10_cheapest_78 : decode mX10_cheapest.2.1 78 = .ok (.iload 5, 2) := by decide +kernel
theorem dX10_cheapest_80 : decode mX10_cheapest.2.1 80 = .ok (.istore_n 3, 1) := by decide +kernel
theorem dX10_cheapest_81 : decode mX10_cheapest.2.1 81 = .ok (.iload 7, 2) := by decide +kernel
theorem dX10_cheapest_83 : decode mX10_cheapest.2.1 83 = .ok (.istore 4, 2) := by decide +kernel
theorem dX10_cheapest_85 : decode mX10_cheapest.2.1 85 = .ok (.iinc 5 1, 3) := by decide +kernel
theorem dX10_cheapest_88 : decode mX10_cheapest.2.1 88 = .ok (.goto (-80), 3) := by decide +kernel
theorem dX10_cheapest_91 : decode mX10_cheapest.2.1 91 = .ok (.iload_n 3, 1) := by decide +kernel
theorem dX10_cheapest_92 : decode mX10_cheapest.2.1 92 = .ok (.ireturn, 1) := by decide +kernel
theorem dX10_isAtWork_0 : decode mX10_isAtWork.2.1 0 = .ok (.aload_n 0, 1) := by decide +kernel
theorem dX10_isAtWork_1 : decode mX10_isAtWork.2.1 1 = .ok (.getfield 48, 3) := by decide +kernel
theorem dX10_isAtWork_4 : decode mX10_isAtWork.2.1 4 = .ok (.getfield 241, 3) := by decide +kernel
theorem dX10_isAtWork_7 : decode mX10_isAtWork.2.1 7 = .ok (.iload_n 1, 1) := by decide +kernel
theorem dX10_isAtWork_8 : decode mX10_isAtWork.2.1 8 = .ok (.iaload, 1) := by decide +kernel
theorem dX10_isAtWork_9 : decode mX10_isAtWork.2.1 9 = .ok (.aload_n 0, 1) := by decide +kernel
theorem dX10_isAtWork_10 : decode mX10_isAtWork.2.1 10 = .ok (.getfield 21, 3) := by decide +kernel
theorem dX10_isAtWork_13 : decode mX10_isAtWork.2.1 13 = .ok (.getfield 182, 3) := by decide +kernel
theorem dX10_isAtWork_16 : decode mX10_isAtWork.2.1 16 = .ok (.iload_n 2, 1) := by decide +kernel
theorem dX10_isAtWork_17 : decode mX10_isAtWork.2.1 17 = .ok (.iconst 1, 1) := by decide +kernel
theorem dX10_isAtWork_18 : decode mX10_isAtWork.2.1 18 = .ok (.invokevirtual 102, 3) := by decide +kernel
theorem dX10_isAtWork_21 : decode mX10_isAtWork.2.1 21 = .ok (.invokestatic 244, 3) := by decide +kernel
theorem dX10_isAtWork_24 : decode mX10_isAtWork.2.1 24 = .ok (.istore_n 3, 1) := by decide +kernel
theorem dX10_isAtWork_25 : decode mX10_isAtWork.2.1 25 = .ok (.aload_n 0, 1) := by decide +kernel
theorem dX10_isAtWork_26 : decode mX10_isAtWork.2.1 26 = .ok (.getfield 21, 3) := by decide +kernel
theorem dX10_isAtWork_29 : decode mX10_isAtWork.2.1 29 = .ok (.getfield 182, 3) := by decide +kernel
theorem dX10_isAtWork_32 : decode mX10_isAtWork.2.1 32 = .ok (.iload_n 2, 1) := by decide +kernel
theorem dX10_isAtWork_33 : decode mX10_isAtWork.2.1 33 = .ok (.iconst 0, 1) := by decide +kernel
theorem dX10_isAtWork_34 : decode mX10_isAtWork.2.1 34 = .ok (.invokevirtual 102, 3) := by decide +kernel
theorem dX10_isAtWork_37 : decode mX10_isAtWork.2.1 37 = .ok (.iconst 3, 1) := by decide +kernel
theorem dX10_isAtWork_38 : decode mX10_isAtWork.2.1 38 = .ok (.if_icmp .ne 16, 3) := by decide +kernel
theorem dX10_isAtWork_41 : decode mX10_isAtWork.2.1 41 = .ok (.iload_n 3, 1) := by decide +kernel
theorem dX10_isAtWork_42 : decode mX10_isAtWork.2.1 42 = .ok (.iconst 1, 1) := by decide +kernel
theorem dX10_isAtWork_43 : decode mX10_isAtWork.2.1 43 = .ok (.if_icmp .ne 7, 3) := by decide +kernel
theorem dX10_isAtWork_46 : decode mX10_isAtWork.2.1 46 = .ok (.iconst 1, 1) := by decide +kernel
theorem dX10_isAtWork_47 : decode mX10_isAtWork.2.1 47 = .ok (.goto 16, 3) := by decide +kernel
theorem dX10_isAtWork_50 : decode mX10_isAtWork.2.1 50 = .ok (.iconst 0, 1) := by decide +kernel
theorem dX10_isAtWork_51 : decode mX10_isAtWork.2.1 51 = .ok (.goto 12, 3) := by decide +kernel
theorem dX10_isAtWork_54 : decode mX10_isAtWork.2.1 54 = .ok (.iload_n 3, 1) := by decide +kernel
theorem dX10_isAtWork_55 : decode mX10_isAtWork.2.1 55 = .ok (.ifCond .ne 7, 3) := by decide +kernel
theorem dX10_isAtWork_58 : decode mX10_isAtWork.2.1 58 = .ok (.iconst 1, 1) := by decide +kernel
theorem dX10_isAtWork_59 : decode mX10_isAtWork.2.1 59 = .ok (.goto 4, 3) := by decide +kernel
theorem dX10_isAtWork_62 : decode mX10_isAtWork.2.1 62 = .ok (.iconst 0, 1) := by decide +kernel
theorem dX10_isAtWork_63 : decode mX10_isAtWork.2.1 63 = .ok (.ireturn, 1) := by decide +kernel
theorem dX10_doWork_0 : decode mX10_doWork.2.1 0 = .ok (.aload_n 0, 1) := by decide +kernel
theorem dX10_doWork_1 : decode mX10_doWork.2.1 1 = .ok (.getfield 21, 3) := by decide +kernel
theorem dX10_doWork_4 : decode mX10_doWork.2.1 4 = .ok (.getfield 182, 3) := by decide +kernel
theorem dX10_doWork_7 : decode mX10_doWork.2.1 7 = .ok (.iload_n 2, 1) := by decide +kernel
theorem dX10_doWork_8 : decode mX10_doWork.2.1 8 = .ok (.iconst 1, 1) := by decide +kernel
theorem dX10_doWork_9 : decode mX10_doWork.2.1 9 = .ok (.invokevirtual 102, 3) := by decide +kernel
theorem dX10_doWork_12 : decode mX10_doWork.2.1 12 = .ok (.istore_n 3, 1) := by decide +kernel
theorem dX10_doWork_13 : decode mX10_doWork.2.1 13 = .ok (.aload_n 0, 1) := by decide +kernel
theorem dX10_doWork_14 : decode mX10_doWork.2.1 14 = .ok (.getfield 21, 3) := by decide +kernel
theorem dX10_doWork_17 : decode mX10_doWork.2.1 17 = .ok (.getfield 182, 3) := by decide +kernel
theorem dX10_doWork_20 : decode mX10_doWork.2.1 20 = .ok (.iload_n 2, 1) := by decide +kernel
theorem dX10_doWork_21 : decode mX10_doWork.2.1 21 = .ok (.iconst 0, 1) := by decide +kernel
theorem dX10_doWork_22 : decode mX10_doWork.2.1 22 = .ok (.invokevirtual 102, 3) := by decide +kernel
theorem dX10_doWork_25 : decode mX10_doWork.2.1 25 = .ok (.tableswitch 81 0 2 #[27, 46, 58], 27) := by decide +kernel
theorem dX10_doWork_52 : decode mX10_doWork.2.1 52 = .ok (.aload_n 0, 1) := by decide +kernel
theorem dX10_doWork_53 : decode mX10_doWork.2.1 53 = .ok (.getfield 41, 3) := by decide +kernel
theorem dX10_doWork_56 : decode mX10_doWork.2.1 56 = .ok (.iload_n 3, 1) := by decide +kernel
theorem dX10_doWork_57 : decode mX10_doWork.2.1 57 = .ok (.aload_n 0, 1) := by decide +kernel
theorem dX10_doWork_58 : decode mX10_doWork.2.1 58 = .ok (.getfield 41, 3) := by decide +kernel
theorem dX10_doWork_61 : decode mX10_doWork.2.1 61 = .ok (.iload_n 3, 1) := by decide +kernel
theorem dX10_doWork_62 : decode mX10_doWork.2.1 62 = .ok (.invokevirtual 247, 3) := by decide +kernel
theorem dX10_doWork_65 : decode mX10_doWork.2.1 65 = .ok (.invokevirtual 132, 3) := by decide +kernel
theorem dX10_doWork_68 : decode mX10_doWork.2.1 68 = .ok (.goto 55, 3) := by decide +kernel
theorem dX10_doWork_71 : decode mX10_doWork.2.1 71 = .ok (.aload_n 0, 1) := by decide +kernel
theorem dX10_doWork_72 : decode mX10_doWork.2.1 72 = .ok (.getfield 41, 3) := by decide +kernel
theorem dX10_doWork_75 : decode mX10_doWork.2.1 75 = .ok (.iload_n 3, 1) := by decide +kernel
theorem dX10_doWork_76 : decode mX10_doWork.2.1 76 = .ok (.iconst 2, 1) := by decide +kernel
theorem dX10_doWork_77 : decode mX10_doWork.2.1 77 = .ok (.invokevirtual 250, 3) := by decide +kernel
theorem dX10_doWork_80 : decode mX10_doWork.2.1 80 = .ok (.goto 43, 3) := by decide +kernel
theorem dX10_doWork_83 : decode mX10_doWork.2.1 83 = .ok (.aload_n 0, 1) := by decide +kernel
theorem dX10_doWork_84 : decode mX10_doWork.2.1 84 = .ok (.getfield 41, 3) := by decide +kernel
theorem dX10_doWork_87 : decode mX10_doWork.2.1 87 = .ok (.iload_n 3, 1) := by decide +kernel
theorem dX10_doWork_88 : decode mX10_doWork.2.1 88 = .ok (.aload_n 0, 1) := by decide +kernel
theorem dX10_doWork_89 : decode mX10_doWork.2.1 89 = .ok (.getfield 21, 3) := by decide +kernel
theorem dX10_doWork_92 : decode mX10_doWork.2.1 92 = .ok (.getfield 182, 3) := by decide +kernel
theorem dX10_doWork_95 : decode mX10_doWork.2.1 95 = .ok (.iload_n 2, 1) := by decide +kernel
theorem dX10_doWork_96 : decode mX10_doWork.2.1 96 = .ok (.iconst 2, 1) := by decide +kernel
theorem dX10_doWork_97 : decode mX10_doWork.2.1 97 = .ok (.invokevirtual 102, 3) := by decide +kernel
theorem dX10_doWork_100 : decode mX10_doWork.2.1 100 = .ok (.invokevirtual 253, 3) := by decide +kernel
theorem dX10_doWork_103 : decode mX10_doWork.2.1 103 = .ok (.goto 20, 3) := by decide +kernel
theorem dX10_doWork_106 : decode mX10_doWork.2.1 106 = .ok (.aload_n 0, 1) := by decide +kernel
theorem dX10_doWork_107 : decode mX10_doWork.2.1 107 = .ok (.getfield 48, 3) := by decide +kernel
theorem dX10_doWork_110 : decode mX10_doWork.2.1 110 = .ok (.iload_n 3, 1) := by decide +kernel
theorem dX10_doWork_111 : decode mX10_doWork.2.1 111 = .ok (.aload_n 0, 1) := by decide +kernel
theorem dX10_doWork_112 : decode mX10_doWork.2.1 112 = .ok (.getfield 48, 3) := by decide +kernel
theorem dX10_doWork_115 : decode mX10_doWork.2.1 115 = .ok (.getfield 241, 3) := by decide +kernel
theorem dX10_doWork_118 : decode mX10_doWork.2.1 118 = .ok (.iload_n 1, 1) := by decide +kernel
theorem dX10_doWork_119 : decode mX10_doWork.2.1 119 = .ok (.iaload, 1) := by decide +kernel
theorem dX10_doWork_120 : decode mX10_doWork.2.1 120 = .ok (.invokevirtual 256, 3) := by decide +kernel
theorem dX10_doWork_123 : decode mX10_doWork.2.1 123 = .ok (.iload_n 2, 1) := by decide +kernel
theorem dX10_doWork_124 : decode mX10_doWork.2.1 124 = .ok (.iconst 0, 1) := by decide +kernel
theorem dX10_doWork_125 : decode mX10_doWork.2.1 125 = .ok (.bipush 59, 2) := by decide +kernel
theorem dX10_doWork_127 : decode mX10_doWork.2.1 127 = .ok (.invokestatic 139, 3) := by decide +kernel
theorem dX10_doWork_130 : decode mX10_doWork.2.1 130 = .ok (.ifCond .eq 10, 3) := by decide +kernel
theorem dX10_doWork_133 : decode mX10_doWork.2.1 133 = .ok (.aload_n 0, 1) := by decide +kernel
theorem dX10_doWork_134 : decode mX10_doWork.2.1 134 = .ok (.getfield 9, 3) := by decide +kernel
theorem dX10_doWork_137 : decode mX10_doWork.2.1 137 = .ok (.iload_n 2, 1) := by decide +kernel
theorem dX10_doWork_138 : decode mX10_doWork.2.1 138 = .ok (.iconst 2, 1) := by decide +kernel
theorem dX10_doWork_139 : decode mX10_doWork.2.1 139 = .ok (.iastore, 1) := by decide +kernel
theorem dX10_doWork_140 : decode mX10_doWork.2.1 140 = .ok (.aload_n 0, 1) := by decide +kernel
theorem dX10_doWork_141 : decode mX10_doWork.2.1 141 = .ok (.getfield 48, 3) := by decide +kernel
theorem dX10_doWork_144 : decode mX10_doWork.2.1 144 = .ok (.getfield 216, 3) := by decide +kernel
theorem dX10_doWork_147 : decode mX10_doWork.2.1 147 = .ok (.iload_n 1, 1) := by decide +kernel
theorem dX10_doWork_148 : decode mX10_doWork.2.1 148 = .ok (.iconst (-1), 1) := by decide +kernel
theorem dX10_doWork_149 : decode mX10_doWork.2.1 149 = .ok (.iastore, 1) := by decide +kernel
theorem dX10_doWork_150 : decode mX10_doWork.2.1 150 = .ok (.aload_n 0, 1) := by decide +kernel
theorem dX10_doWork_151 : decode mX10_doWork.2.1 151 = .ok (.getfield 48, 3) := by decide +kernel
theorem dX10_doWork_154 : decode mX10_doWork.2.1 154 = .ok (.getfield 219, 3) := by decide +kernel
theorem dX10_doWork_157 : decode mX10_doWork.2.1 157 = .ok (.iload_n 1, 1) := by decide +kernel
theorem dX10_doWork_158 : decode mX10_doWork.2.1 158 = .ok (.iconst 0, 1) := by decide +kernel
theorem dX10_doWork_159 : decode mX10_doWork.2.1 159 = .ok (.iastore, 1) := by decide +kernel
theorem dX10_doWork_160 : decode mX10_doWork.2.1 160 = .ok (.return_, 1) := by decide +kernel
theorem dX10_move_0 : decode mX10_move.2.1 0 = .ok (.aload_n 0, 1) := by decide +kernel
theorem dX10_move_1 : decode mX10_move.2.1 1 = .ok (.getfield 25, 3) := by decide +kernel
theorem dX10_move_4 : decode mX10_move.2.1 4 = .ok (.iload_n 1, 1) := by decide +kernel
theorem dX10_move_5 : decode mX10_move.2.1 5 = .ok (.aload_n 0, 1) := by decide +kernel
theorem dX10_move_6 : decode mX10_move.2.1 6 = .ok (.getfield 21, 3) := by decide +kernel
theorem dX10_move_9 : decode mX10_move.2.1 9 = .ok (.getfield 189, 3) := by decide +kernel
theorem dX10_move_12 : decode mX10_move.2.1 12 = .ok (.aload_n 0, 1) := by decide +kernel
theorem dX10_move_13 : decode mX10_move.2.1 13 = .ok (.getfield 48, 3) := by decide +kernel
theorem dX10_move_16 : decode mX10_move.2.1 16 = .ok (.aload_n 0, 1) := by decide +kernel
theorem dX10_move_17 : decode mX10_move.2.1 17 = .ok (.getfield 32, 3) := by decide +kernel
theorem dX10_move_20 : decode mX10_move.2.1 20 = .ok (.aload_n 0, 1) := by decide +kernel
theorem dX10_move_21 : decode mX10_move.2.1 21 = .ok (.getfield 18, 3) := by decide +kernel
theorem dX10_move_24 : decode mX10_move.2.1 24 = .ok (.iconst 0, 1) := by decide +kernel
theorem dX10_move_25 : decode mX10_move.2.1 25 = .ok (.iaload, 1) := by decide +kernel
theorem dX10_move_26 : decode mX10_move.2.1 26 = .ok (.invokevirtual 192, 3) := by decide +kernel
theorem dX10_move_29 : decode mX10_move.2.1 29 = .ok (.aload_n 0, 1) := by decide +kernel
theorem dX10_move_30 : decode mX10_move.2.1 30 = .ok (.getfield 48, 3) := by decide +kernel
theorem dX10_move_33 : decode mX10_move.2.1 33 = .ok (.getfield 216, 3) := by decide +kernel
theorem dX10_move_36 : decode mX10_move.2.1 36 = .ok (.iload_n 1, 1) := by decide +kernel
theorem dX10_move_37 : decode mX10_move.2.1 37 = .ok (.iaload, 1) := by decide +kernel
theorem dX10_move_38 : decode mX10_move.2.1 38 = .ok (.istore_n 2, 1) := by decide +kernel
theorem dX10_move_39 : decode mX10_move.2.1 39 = .ok (.aload_n 0, 1) := by decide +kernel
theorem dX10_move_40 : decode mX10_move.2.1 40 = .ok (.getfield 48, 3) := by decide +kernel
theorem dX10_move_43 : decode mX10_move.2.1 43 = .ok (.getfield 219, 3) := by decide +kernel
theorem dX10_move_46 : decode mX10_move.2.1 46 = .ok (.iload_n 1, 1) := by decide +kernel
theorem dX10_move_47 : decode mX10_move.2.1 47 = .ok (.iaload, 1) := by decide +kernel
theorem dX10_move_48 : decode mX10_move.2.1 48 = .ok (.iconst 2, 1) := by decide +kernel
theorem dX10_move_49 : decode mX10_move.2.1 49 = .ok (.if_icmp .ne 7, 3) := by decide +kernel
theorem dX10_move_52 : decode mX10_move.2.1 52 = .ok (.iconst 1, 1) := by decide +kernel
theorem dX10_move_53 : decode mX10_move.2.1 53 = .ok (.goto 4, 3) := by decide +kernel
theorem dX10_move_56 : decode mX10_move.2.1 56 = .ok (.iconst 0, 1) := by decide +kernel
theorem dX10_move_57 : decode mX10_move.2.1 57 = .ok (.istore_n 3, 1) := by decide +kernel
theorem dX10_move_58 : decode mX10_move.2.1 58 = .ok (.aload_n 0, 1) := by decide +kernel
theorem dX10_move_59 : decode mX10_move.2.1 59 = .ok (.getfield 25, 3) := by decide +kernel
theorem dX10_move_62 : decode mX10_move.2.1 62 = .ok (.iload_n 1, 1) := by decide +kernel
theorem dX10_move_63 : decode mX10_move.2.1 63 = .ok (.iload_n 3, 1) := by decide +kernel
theorem dX10_move_64 : decode mX10_move.2.1 64 = .ok (.ifCond .eq 18, 3) := by decide +kernel
theorem dX10_move_67 : decode mX10_move.2.1 67 = .ok (.aload_n 0, 1) := by decide +kernel
theorem dX10_move_68 : decode mX10_move.2.1 68 = .ok (.getfield 21, 3) := by decide +kernel
theorem dX10_move_71 : decode mX10_move.2.1 71 = .ok (.getfield 189, 3) := by decide +kernel
theorem dX10_move_74 : decode mX10_move.2.1 74 = .ok (.iload_n 1, 1) := by decide +kernel
theorem dX10_move_75 : decode mX10_move.2.1 75 = .ok (.iconst 3, 1) := by decide +kernel
theorem dX10_move_76 : decode mX10_move.2.1 76 = .ok (.invokevirtual 102, 3) := by decide +kernel
theorem dX10_move_79 : decode mX10_move.2.1 79 = .ok (.goto 9, 3) := by decide +kernel
theorem dX10_move_82 : decode mX10_move.2.1 82 = .ok (.aload_n 0, 1) := by decide +kernel
theorem dX10_move_83 : decode mX10_move.2.1 83 = .ok (.iload_n 1, 1) := by decide +kernel
theorem dX10_move_84 : decode mX10_move.2.1 84 = .ok (.iload_n 2, 1) := by decide +kernel
theorem dX10_move_85 : decode mX10_move.2.1 85 = .ok (.invokevirtual 204, 3) := by decide +kernel
theorem dX10_move_88 : decode mX10_move.2.1 88 = .ok (.invokevirtual 259, 3) := by decide +kernel
theorem dX10_move_91 : decode mX10_move.2.1 91 = .ok (.istore 4, 2) := by decide +kernel
theorem dX10_move_93 : decode mX10_move.2.1 93 = .ok (.iload 4, 2) := by decide +kernel
theorem dX10_move_95 : decode mX10_move.2.1 95 = .ok (.invokestatic 262, 3) := by decide +kernel
theorem dX10_move_98 : decode mX10_move.2.1 98 = .ok (.ifCond .ne 14, 3) := by decide +kernel
theorem dX10_move_101 : decode mX10_move.2.1 101 = .ok (.iload_n 3, 1) := by decide +kernel
theorem dX10_move_102 : decode mX10_move.2.1 102 = .ok (.ifCond .ne 9, 3) := by decide +kernel
theorem dX10_move_105 : decode mX10_move.2.1 105 = .ok (.aload_n 0, 1) := by decide +kernel
theorem dX10_move_106 : decode mX10_move.2.1 106 = .ok (.iload_n 1, 1) := by decide +kernel
theorem dX10_move_107 : decode mX10_move.2.1 107 = .ok (.iconst 0, 1) := by decide +kernel
theorem dX10_move_108 : decode mX10_move.2.1 108 = .ok (.invokevirtual 265, 3) := by decide +kernel
theorem dX10_move_111 : decode mX10_move.2.1 111 = .ok (.return_, 1) := by decide +kernel
theorem dX10_move_112 : decode mX10_move.2.1 112 = .ok (.aload_n 0, 1) := by decide +kernel
theorem dX10_move_113 : decode mX10_move.2.1 113 = .ok (.getfield 48, 3) := by decide +kernel
theorem dX10_move_116 : decode mX10_move.2.1 116 = .ok (.getfield 268, 3) := by decide +kernel
theorem dX10_move_119 : decode mX10_move.2.1 119 = .ok (.iload_n 1, 1) := by decide +kernel
theorem dX10_move_120 : decode mX10_move.2.1 120 = .ok (.iaload, 1) := by decide +kernel
theorem dX10_move_121 : decode mX10_move.2.1 121 = .ok (.ifCond .ne 10, 3) := by decide +kernel
theorem dX10_move_124 : decode mX10_move.2.1 124 = .ok (.aload_n 0, 1) := by decide +kernel
theorem dX10_move_125 : decode mX10_move.2.1 125 = .ok (.iload_n 1, 1) := by decide +kernel
theorem dX10_move_126 : decode mX10_move.2.1 126 = .ok (.iconst 5, 1) := by decide +kernel
theorem dX10_move_127 : decode mX10_move.2.1 127 = .ok (.invokevirtual 265, 3) := by decide +kernel
theorem dX10_move_130 : decode mX10_move.2.1 130 = .ok (.return_, 1) := by decide +kernel
theorem dX10_move_131 : decode mX10_move.2.1 131 = .ok (.aload_n 0, 1) := by decide +kernel
theorem dX10_move_132 : decode mX10_move.2.1 132 = .ok (.getfield 48, 3) := by decide +kernel
theorem dX10_move_135 : decode mX10_move.2.1 135 = .ok (.getfield 268, 3) := by decide +kernel
theorem dX10_move_138 : decode mX10_move.2.1 138 = .ok (.iload_n 1, 1) := by decide +kernel
theorem dX10_move_139 : decode mX10_move.2.1 139 = .ok (.dup2, 1) := by decide +kernel
theorem dX10_move_140 : decode mX10_move.2.1 140 = .ok (.iaload, 1) := by decide +kernel
theorem dX10_move_141 : decode mX10_move.2.1 141 = .ok (.iconst 1, 1) := by decide +kernel
theorem dX10_move_142 : decode mX10_move.2.1 142 = .ok (.isub, 1) := by decide +kernel
theorem dX10_move_143 : decode mX10_move.2.1 143 = .ok (.iastore, 1) := by decide +kernel
theorem dX10_move_144 : decode mX10_move.2.1 144 = .ok (.aload_n 0, 1) := by decide +kernel
theorem dX10_move_145 : decode mX10_move.2.1 145 = .ok (.getfield 48, 3) := by decide +kernel
theorem dX10_move_148 : decode mX10_move.2.1 148 = .ok (.getfield 241, 3) := by decide +kernel
theorem dX10_move_151 : decode mX10_move.2.1 151 = .ok (.iload_n 1, 1) := by decide +kernel
theorem dX10_move_152 : decode mX10_move.2.1 152 = .ok (.iload 4, 2) := by decide +kernel
theorem dX10_move_154 : decode mX10_move.2.1 154 = .ok (.iastore, 1) := by decide +kernel
theorem dX10_move_155 : decode mX10_move.2.1 155 = .ok (.aload_n 0, 1) := by decide +kernel
theorem dX10_move_156 : decode mX10_move.2.1 156 = .ok (.getfield 32, 3) := by decide +kernel
theorem dX10_move_159 : decode mX10_move.2.1 159 = .ok (.getfield 271, 3) := by decide +kernel
theorem dX10_move_162 : decode mX10_move.2.1 162 = .ok (.iload 4, 2) := by decide +kernel
theorem dX10_move_164 : decode mX10_move.2.1 164 = .ok (.dup2, 1) := by decide +kernel
theorem dX10_move_165 : decode mX10_move.2.1 165 = .ok (.iaload, 1) := by decide +kernel
theorem dX10_move_166 : decode mX10_move.2.1 166 = .ok (.aload_n 0, 1) := by decide +kernel
theorem dX10_move_167 : decode mX10_move.2.1 167 = .ok (.getfield 32, 3) := by decide +kernel
theorem dX10_move_170 : decode mX10_move.2.1 170 = .ok (.aload_n 0, 1) := by decide +kernel
theorem dX10_move_171 : decode mX10_move.2.1 171 = .ok (.getfield 21, 3) := by decide +kernel
theorem dX10_move_174 : decode mX10_move.2.1 174 = .ok (.getfield 189, 3) := by decide +kernel
theorem dX10_move_177 : decode mX10_move.2.1 177 = .ok (.iload_n 1, 1) := by decide +kernel
theorem dX10_move_178 : decode mX10_move.2.1 178 = .ok (.iconst 1, 1) := by decide +kernel
theorem dX10_move_179 : decode mX10_move.2.1 179 = .ok (.invokevirtual 102, 3) := by decide +kernel
theorem dX10_move_182 : decode mX10_move.2.1 182 = .ok (.iload 4, 2) := by decide +kernel
theorem dX10_move_184 : decode mX10_move.2.1 184 = .ok (.invokevirtual 274, 3) := by decide +kernel
theorem dX10_move_187 : decode mX10_move.2.1 187 = .ok (.iadd, 1) := by decide +kernel
theorem dX10_move_188 : decode mX10_move.2.1 188 = .ok (.iastore, 1) := by decide +kernel
theorem dX10_move_189 : decode mX10_move.2.1 189 = .ok (.aload_n 0, 1) := by decide +kernel
theorem dX10_move_190 : decode mX10_move.2.1 190 = .ok (.getfield 32, 3) := by decide +kernel
theorem dX10_move_193 : decode mX10_move.2.1 193 = .ok (.getfield 271, 3) := by decide +kernel
theorem dX10_move_196 : decode mX10_move.2.1 196 = .ok (.iload 4, 2) := by decide +kernel
theorem dX10_move_198 : decode mX10_move.2.1 198 = .ok (.iaload, 1) := by decide +kernel
theorem dX10_move_199 : decode mX10_move.2.1 199 = .ok (.aload_n 0, 1) := by decide +kernel
theorem dX10_move_200 : decode mX10_move.2.1 200 = .ok (.getfield 18, 3) := by decide +kernel
theorem dX10_move_203 : decode mX10_move.2.1 203 = .ok (.iconst 1, 1) := by decide +kernel
theorem dX10_move_204 : decode mX10_move.2.1 204 = .ok (.iaload, 1) := by decide +kernel
theorem dX10_move_205 : decode mX10_move.2.1 205 = .ok (.if_icmp .le 13, 3) := by decide +kernel
theorem dX10_move_208 : decode mX10_move.2.1 208 = .ok (.aload_n 0, 1) := by decide +kernel
theorem dX10_move_209 : decode mX10_move.2.1 209 = .ok (.getfield 41, 3) := by decide +kernel
theorem dX10_move_212 : decode mX10_move.2.1 212 = .ok (.iload 4, 2) := by decide +kernel
theorem dX10_move_214 : decode mX10_move.2.1 214 = .ok (.iconst 3, 1) := by decide +kernel
theorem dX10_move_215 : decode mX10_move.2.1 215 = .ok (.invokevirtual 250, 3) := by decide +kernel
theorem dX10_move_218 : decode mX10_move.2.1 218 = .ok (.aload_n 0, 1) := by decide +kernel
theorem dX10_move_219 : decode mX10_move.2.1 219 = .ok (.getfield 32, 3) := by decide +kernel
theorem dX10_move_222 : decode mX10_move.2.1 222 = .ok (.getfield 277, 3) := by decide +kernel
theorem dX10_move_225 : decode mX10_move.2.1 225 = .ok (.iload 4, 2) := by decide +kernel
theorem dX10_move_227 : decode mX10_move.2.1 227 = .ok (.iaload, 1) := by decide +kernel
theorem dX10_move_228 : decode mX10_move.2.1 228 = .ok (.aload_n 0, 1) := by decide +kernel
theorem dX10_move_229 : decode mX10_move.2.1 229 = .ok (.getfield 21, 3) := by decide +kernel
theorem dX10_move_232 : decode mX10_move.2.1 232 = .ok (.getfield 189, 3) := by decide +kernel
theorem dX10_move_235 : decode mX10_move.2.1 235 = .ok (.iload_n 1, 1) := by decide +kernel
theorem dX10_move_236 : decode mX10_move.2.1 236 = .ok (.iconst 2, 1) := by decide +kernel
theorem dX10_move_237 : decode mX10_move.2.1 237 = .ok (.invokevirtual 102, 3) := by decide +kernel
theorem dX10_move_240 : decode mX10_move.2.1 240 = .ok (.if_icmp .le 24, 3) := by decide +kernel
theorem dX10_move_243 : decode mX10_move.2.1 243 = .ok (.aload_n 0, 1) := by decide +kernel
theorem dX10_move_244 : decode mX10_move.2.1 244 = .ok (.iload_n 1, 1) := by decide +kernel
theorem dX10_move_245 : decode mX10_move.2.1 245 = .ok (.iconst 4, 1) := by decide +kernel
theorem dX10_move_246 : decode mX10_move.2.1 246 = .ok (.invokevirtual 265, 3) := by decide +kernel
theorem dX10_move_249 : decode mX10_move.2.1 249 = .ok (.aload_n 0, 1) := by decide +kernel
theorem dX10_move_250 : decode mX10_move.2.1 250 = .ok (.getfield 48, 3) := by decide +kernel
theorem dX10_move_253 : decode mX10_move.2.1 253 = .ok (.iload 4, 2) := by decide +kernel
theorem dX10_move_255 : decode mX10_move.2.1 255 = .ok (.aload_n 0, 1) := by decide +kernel
theorem dX10_move_256 : decode mX10_move.2.1 256 = .ok (.getfield 18, 3) := by decide +kernel
theorem dX10_move_259 : decode mX10_move.2.1 259 = .ok (.iconst 3, 1) := by decide +kernel
theorem dX10_move_260 : decode mX10_move.2.1 260 = .ok (.iaload, 1) := by decide +kernel
theorem dX10_move_261 : decode mX10_move.2.1 261 = .ok (.invokevirtual 280, 3) := by decide +kernel
theorem dX10_move_264 : decode mX10_move.2.1 264 = .ok (.return_, 1) := by decide +kernel
theorem dX10_hearTold_0 : decode mX10_hearTold.2.1 0 = .ok (.aload_n 0, 1) := by decide +kernel
theorem dX10_hearTold_1 : decode mX10_hearTold.2.1 1 = .ok (.getfield 70, 3) := by decide +kernel
theorem dX10_hearTold_4 : decode mX10_hearTold.2.1 4 = .ok (.istore_n 1, 1) := by decide +kernel
theorem dX10_hearTold_5 : decode mX10_hearTold.2.1 5 = .ok (.iload_n 1, 1) := by decide +kernel
theorem dX10_hearTold_6 : decode mX10_hearTold.2.1 6 = .ok (.aload_n 0, 1) := by decide +kernel
theorem dX10_hearTold_7 : decode mX10_hearTold.2.1 7 = .ok (.getfield 21, 3) := by decide +kernel
theorem dX10_hearTold_10 : decode mX10_hearTold.2.1 10 = .ok (.getfield 91, 3) := by decide +kernel
theorem dX10_hearTold_13 : decode mX10_hearTold.2.1 13 = .ok (.getfield 97, 3) := by decide +kernel
theorem dX10_hearTold_16 : decode mX10_hearTold.2.1 16 = .ok (.if_icmp .ge 43, 3) := by decide +kernel
theorem dX10_hearTold_19 : decode mX10_hearTold.2.1 19 = .ok (.aload_n 0, 1) := by decide +kernel
theorem dX10_hearTold_20 : decode mX10_hearTold.2.1 20 = .ok (.getfield 21, 3) := by decide +kernel
theorem dX10_hearTold_23 : decode mX10_hearTold.2.1 23 = .ok (.getfield 91, 3) := by decide +kernel
theorem dX10_hearTold_26 : decode mX10_hearTold.2.1 26 = .ok (.iload_n 1, 1) := by decide +kernel
theorem dX10_hearTold_27 : decode mX10_hearTold.2.1 27 = .ok (.iconst 0, 1) := by decide +kernel
theorem dX10_hearTold_28 : decode mX10_hearTold.2.1 28 = .ok (.invokevirtual 102, 3) := by decide +kernel
theorem dX10_hearTold_31 : decode mX10_hearTold.2.1 31 = .ok (.aload_n 0, 1) := by decide +kernel
theorem dX10_hearTold_32 : decode mX10_hearTold.2.1 32 = .ok (.getfield 66, 3) := by decide +kernel
theorem dX10_hearTold_35 : decode mX10_hearTold.2.1 35 = .ok (.if_icmp .gt 24, 3) := by decide +kernel
theorem dX10_hearTold_38 : decode mX10_hearTold.2.1 38 = .ok (.aload_n 0, 1) := by decide +kernel
theorem dX10_hearTold_39 : decode mX10_hearTold.2.1 39 = .ok (.iload_n 1, 1) := by decide +kernel
theorem dX10_hearTold_40 : decode mX10_hearTold.2.1 40 = .ok (.invokevirtual 106, 3) := by decide +kernel
theorem dX10_hearTold_43 : decode mX10_hearTold.2.1 43 = .ok (.aload_n 0, 1) := by decide +kernel
theorem dX10_hearTold_44 : decode mX10_hearTold.2.1 44 = .ok (.dup, 1) := by decide +kernel
theorem dX10_hearTold_45 : decode mX10_hearTold.2.1 45 = .ok (.getfield 70, 3) := by decide +kernel
theorem dX10_hearTold_48 : decode mX10_hearTold.2.1 48 = .ok (.iconst 1, 1) := by decide +kernel
theorem dX10_hearTold_49 : decode mX10_hearTold.2.1 49 = .ok (.iadd, 1) := by decide +kernel
theorem dX10_hearTold_50 : decode mX10_hearTold.2.1 50 = .ok (.putfield 70, 3) := by decide +kernel
theorem dX10_hearTold_53 : decode mX10_hearTold.2.1 53 = .ok (.iinc 1 1, 3) := by decide +kernel
theorem dX10_hearTold_56 : decode mX10_hearTold.2.1 56 = .ok (.goto (-51), 3) := by decide +kernel
theorem dX10_hearTold_59 : decode mX10_hearTold.2.1 59 = .ok (.return_, 1) := by decide +kernel
theorem dX10_makeOffers_0 : decode mX10_makeOffers.2.1 0 = .ok (.aload_n 0, 1) := by decide +kernel
theorem dX10_makeOffers_1 : decode mX10_makeOffers.2.1 1 = .ok (.getfield 48, 3) := by decide +kernel
theorem dX10_makeOffers_4 : decode mX10_makeOffers.2.1 4 = .ok (.invokevirtual 178, 3) := by decide +kernel
theorem dX10_makeOffers_7 : decode mX10_makeOffers.2.1 7 = .ok (.istore_n 1, 1) := by decide +kernel
theorem dX10_makeOffers_8 : decode mX10_makeOffers.2.1 8 = .ok (.iconst 0, 1) := by decide +kernel
theorem dX10_makeOffers_9 : decode mX10_makeOffers.2.1 9 = .ok (.istore_n 2, 1) := by decide +kernel
theorem dX10_makeOffers_10 : decode mX10_makeOffers.2.1 10 = .ok (.iconst 0, 1) := by decide +kernel
theorem dX10_makeOffers_11 : decode mX10_makeOffers.2.1 11 = .ok (.istore_n 3, 1) := by decide +kernel
theorem dX10_makeOffers_12 : decode mX10_makeOffers.2.1 12 = .ok (.iload_n 3, 1) := by decide +kernel
theorem dX10_makeOffers_13 : decode mX10_makeOffers.2.1 13 = .ok (.bipush 60, 2) := by decide +kernel
theorem dX10_makeOffers_15 : decode mX10_makeOffers.2.1 15 = .ok (.if_icmp .ge 140, 3) := by decide +kernel
theorem dX10_makeOffers_18 : decode mX10_makeOffers.2.1 18 = .ok (.iload_n 1, 1) := by decide +kernel
theorem dX10_makeOffers_19 : decode mX10_makeOffers.2.1 19 = .ok (.ifCond .eq 136, 3) := by decide +kernel
theorem dX10_makeOffers_22 : decode mX10_makeOffers.2.1 22 = .ok (.aload_n 0, 1) := by decide +kernel
theorem dX10_makeOffers_23 : decode mX10_makeOffers.2.1 23 = .ok (.getfield 9, 3) := by decide +kernel
theorem dX10_makeOffers_26 : decode mX10_makeOffers.2.1 26 = .ok (.iload_n 3, 1) := by decide +kernel
theorem dX10_makeOffers_27 : decode mX10_makeOffers.2.1 27 = .ok (.iaload, 1) := by decide +kernel
theorem dX10_makeOffers_28 : decode mX10_makeOffers.2.1 28 = .ok (.ifCond .eq 6, 3) := by decide +kernel
theorem dX10_makeOffers_31 : decode mX10_makeOffers.2.1 31 = .ok (.goto 118, 3) := by decide +kernel
theorem dX10_makeOffers_34 : decode mX10_makeOffers.2.1 34 = .ok (.iload_n 1, 1) := by decide +kernel
theorem dX10_makeOffers_35 : decode mX10_makeOffers.2.1 35 = .ok (.aload_n 0, 1) := by decide +kernel
theorem dX10_makeOffers_36 : decode mX10_makeOffers.2.1 36 = .ok (.aload_n 0, 1) := by decide +kernel
theorem dX10_makeOffers_37 : decode mX10_makeOffers.2.1 37 = .ok (.getfield 21, 3) := by decide +kernel
theorem dX10_makeOffers_40 : decode mX10_makeOffers.2.1 40 = .ok (.getfield 182, 3) := by decide +kernel
theorem dX10_makeOffers_43 : decode mX10_makeOffers.2.1 43 = .ok (.iload_n 3, 1) := by decide +kernel
theorem dX10_makeOffers_44 : decode mX10_makeOffers.2.1 44 = .ok (.iconst 0, 1) := by decide +kernel
theorem dX10_makeOffers_45 : decode mX10_makeOffers.2.1 45 = .ok (.invokevirtual 102, 3) := by decide +kernel
theorem dX10_makeOffers_48 : decode mX10_makeOffers.2.1 48 = .ok (.invokevirtual 185, 3) := by decide +kernel
theorem dX10_makeOffers_51 : decode mX10_makeOffers.2.1 51 = .ok (.iand, 1) := by decide +kernel
theorem dX10_makeOffers_52 : decode mX10_makeOffers.2.1 52 = .ok (.istore 4, 2) := by decide +kernel
theorem dX10_makeOffers_54 : decode mX10_makeOffers.2.1 54 = .ok (.iconst 0, 1) := by decide +kernel
theorem dX10_makeOffers_55 : decode mX10_makeOffers.2.1 55 = .ok (.istore 5, 2) := by decide +kernel
theorem dX10_makeOffers_57 : decode mX10_makeOffers.2.1 57 = .ok (.iload 5, 2) := by decide +kernel
theorem dX10_makeOffers_59 : decode mX10_makeOffers.2.1 59 = .ok (.bipush 8, 2) := by decide +kernel
theorem dX10_makeOffers_61 : decode mX10_makeOffers.2.1 61 = .ok (.if_icmp .ge 53, 3) := by decide +kernel
theorem dX10_makeOffers_64 : decode mX10_makeOffers.2.1 64 = .ok (.iload 4, 2) := by decide +kernel
theorem dX10_makeOffers_66 : decode mX10_makeOffers.2.1 66 = .ok (.iload_n 2, 1) := by decide +kernel
theorem dX10_makeOffers_67 : decode mX10_makeOffers.2.1 67 = .ok (.iconst (-1), 1) := by decide +kernel
theorem dX10_makeOffers_68 : decode mX10_makeOffers.2.1 68 = .ok (.ixor, 1) := by decide +kernel
theorem dX10_makeOffers_69 : decode mX10_makeOffers.2.1 69 = .ok (.iand, 1) := by decide +kernel
theorem dX10_makeOffers_70 : decode mX10_makeOffers.2.1 70 = .ok (.iconst 1, 1) := by decide +kernel
theorem dX10_makeOffers_71 : decode mX10_makeOffers.2.1 71 = .ok (.iload 5, 2) := by decide +kernel
theorem dX10_makeOffers_73 : decode mX10_makeOffers.2.1 73 = .ok (.ishl, 1) := by decide +kernel
theorem dX10_makeOffers_74 : decode mX10_makeOffers.2.1 74 = .ok (.iand, 1) := by decide +kernel
theorem dX10_makeOffers_75 : decode mX10_makeOffers.2.1 75 = .ok (.ifCond .eq 33, 3) := by decide +kernel
theorem dX10_makeOffers_78 : decode mX10_makeOffers.2.1 78 = .ok (.aload_n 0, 1) := by decide +kernel
theorem dX10_makeOffers_79 : decode mX10_makeOffers.2.1 79 = .ok (.getfield 25, 3) := by decide +kernel
theorem dX10_makeOffers_82 : decode mX10_makeOffers.2.1 82 = .ok (.iload 5, 2) := by decide +kernel
theorem dX10_makeOffers_84 : decode mX10_makeOffers.2.1 84 = .ok (.aload_n 0, 1) := by decide +kernel
theorem dX10_makeOffers_85 : decode mX10_makeOffers.2.1 85 = .ok (.getfield 21, 3) := by decide +kernel
theorem dX10_makeOffers_88 : decode mX10_makeOffers.2.1 88 = .ok (.getfield 189, 3) := by decide +kernel
theorem dX10_makeOffers_91 : decode mX10_makeOffers.2.1 91 = .ok (.aload_n 0, 1) := by decide +kernel
theorem dX10_makeOffers_92 : decode mX10_makeOffers.2.1 92 = .ok (.getfield 48, 3) := by decide +kernel
theorem dX10_makeOffers_95 : decode mX10_makeOffers.2.1 95 = .ok (.aload_n 0, 1) := by decide +kernel
theorem dX10_makeOffers_96 : decode mX10_makeOffers.2.1 96 = .ok (.getfield 32, 3) := by decide +kernel
theorem dX10_makeOffers_99 : decode mX10_makeOffers.2.1 99 = .ok (.aload_n 0, 1) := by decide +kernel
theorem dX10_makeOffers_100 : decode mX10_makeOffers.2.1 100 = .ok (.getfield 18, 3) := by decide +kernel
theorem dX10_makeOffers_103 : decode mX10_makeOffers.2.1 103 = .ok (.iconst 0, 1) := by decide +kernel
theorem dX10_makeOffers_104 : decode mX10_makeOffers.2.1 104 = .ok (.iaload, 1) := by decide +kernel
theorem dX10_makeOffers_105 : decode mX10_makeOffers.2.1 105 = .ok (.invokevirtual 192, 3) := by decide +kernel
theorem dX10_makeOffers_108 : decode mX10_makeOffers.2.1 108 = .ok (.iinc 5 1, 3) := by decide +kernel
theorem dX10_makeOffers_111 : decode mX10_makeOffers.2.1 111 = .ok (.goto (-54), 3) := by decide +kernel
theorem dX10_makeOffers_114 : decode mX10_makeOffers.2.1 114 = .ok (.iload_n 2, 1) := by decide +kernel
theorem dX10_makeOffers_115 : decode mX10_makeOffers.2.1 115 = .ok (.iload 4, 2) := by decide +kernel
theorem dX10_makeOffers_117 : decode mX10_makeOffers.2.1 117 = .ok (.ior, 1) := by decide +kernel
theorem dX10_makeOffers_118 : decode mX10_makeOffers.2.1 118 = .ok (.istore_n 2, 1) := by decide +kernel
theorem dX10_makeOffers_119 : decode mX10_makeOffers.2.1 119 = .ok (.aload_n 0, 1) := by decide +kernel
theorem dX10_makeOffers_120 : decode mX10_makeOffers.2.1 120 = .ok (.iload 4, 2) := by decide +kernel
theorem dX10_makeOffers_122 : decode mX10_makeOffers.2.1 122 = .ok (.iload_n 3, 1) := by decide +kernel
theorem dX10_makeOffers_123 : decode mX10_makeOffers.2.1 123 = .ok (.invokevirtual 198, 3) := by decide +kernel
theorem dX10_makeOffers_126 : decode mX10_makeOffers.2.1 126 = .ok (.istore 5, 2) := by decide +kernel
theorem dX10_makeOffers_128 : decode mX10_makeOffers.2.1 128 = .ok (.iload 5, 2) := by decide +kernel
theorem dX10_makeOffers_130 : decode mX10_makeOffers.2.1 130 = .ok (.ifCond .lt 19, 3) := by decide +kernel
theorem dX10_makeOffers_133 : decode mX10_makeOffers.2.1 133 = .ok (.aload_n 0, 1) := by decide +kernel
theorem dX10_makeOffers_134 : decode mX10_makeOffers.2.1 134 = .ok (.iload 5, 2) := by decide +kernel
theorem dX10_makeOffers_136 : decode mX10_makeOffers.2.1 136 = .ok (.iload_n 3, 1) := by decide +kernel
theorem dX10_makeOffers_137 : decode mX10_makeOffers.2.1 137 = .ok (.invokevirtual 201, 3) := by decide +kernel
theorem dX10_makeOffers_140 : decode mX10_makeOffers.2.1 140 = .ok (.iload_n 1, 1) := by decide +kernel
theorem dX10_makeOffers_141 : decode mX10_makeOffers.2.1 141 = .ok (.iconst 1, 1) := by decide +kernel
theorem dX10_makeOffers_142 : decode mX10_makeOffers.2.1 142 = .ok (.iload 5, 2) := by decide +kernel
theorem dX10_makeOffers_144 : decode mX10_makeOffers.2.1 144 = .ok (.ishl, 1) := by decide +kernel
theorem dX10_makeOffers_145 : decode mX10_makeOffers.2.1 145 = .ok (.iconst (-1), 1) := by decide +kernel
theorem dX10_makeOffers_146 : decode mX10_makeOffers.2.1 146 = .ok (.ixor, 1) := by decide +kernel
theorem dX10_makeOffers_147 : decode mX10_makeOffers.2.1 147 = .ok (.iand, 1) := by decide +kernel
theorem dX10_makeOffers_148 : decode mX10_makeOffers.2.1 148 = .ok (.istore_n 1, 1) := by decide +kernel
theorem dX10_makeOffers_149 : decode mX10_makeOffers.2.1 149 = .ok (.iinc 3 1, 3) := by decide +kernel
theorem dX10_makeOffers_152 : decode mX10_makeOffers.2.1 152 = .ok (.goto (-140), 3) := by decide +kernel
theorem dX10_makeOffers_155 : decode mX10_makeOffers.2.1 155 = .ok (.return_, 1) := by decide +kernel
theorem dX10_takeTurn_0 : decode mX10_takeTurn.2.1 0 = .ok (.aload_n 0, 1) := by decide +kernel
theorem dX10_takeTurn_1 : decode mX10_takeTurn.2.1 1 = .ok (.getfield 48, 3) := by decide +kernel
theorem dX10_takeTurn_4 : decode mX10_takeTurn.2.1 4 = .ok (.getfield 219, 3) := by decide +kernel
theorem dX10_takeTurn_7 : decode mX10_takeTurn.2.1 7 = .ok (.iload_n 1, 1) := by decide +kernel
theorem dX10_takeTurn_8 : decode mX10_takeTurn.2.1 8 = .ok (.iaload, 1) := by decide +kernel
theorem dX10_takeTurn_9 : decode mX10_takeTurn.2.1 9 = .ok (.iconst 3, 1) := by decide +kernel
theorem dX10_takeTurn_10 : decode mX10_takeTurn.2.1 10 = .ok (.if_icmp .ne 12, 3) := by decide +kernel
theorem dX10_takeTurn_13 : decode mX10_takeTurn.2.1 13 = .ok (.aload_n 0, 1) := by decide +kernel
theorem dX10_takeTurn_14 : decode mX10_takeTurn.2.1 14 = .ok (.getfield 48, 3) := by decide +kernel
theorem dX10_takeTurn_17 : decode mX10_takeTurn.2.1 17 = .ok (.iload_n 1, 1) := by decide +kernel
theorem dX10_takeTurn_18 : decode mX10_takeTurn.2.1 18 = .ok (.invokevirtual 222, 3) := by decide +kernel
theorem dX10_takeTurn_21 : decode mX10_takeTurn.2.1 21 = .ok (.return_, 1) := by decide +kernel
theorem dX10_takeTurn_22 : decode mX10_takeTurn.2.1 22 = .ok (.aload_n 0, 1) := by decide +kernel
theorem dX10_takeTurn_23 : decode mX10_takeTurn.2.1 23 = .ok (.getfield 48, 3) := by decide +kernel
theorem dX10_takeTurn_26 : decode mX10_takeTurn.2.1 26 = .ok (.getfield 219, 3) := by decide +kernel
theorem dX10_takeTurn_29 : decode mX10_takeTurn.2.1 29 = .ok (.iload_n 1, 1) := by decide +kernel
theorem dX10_takeTurn_30 : decode mX10_takeTurn.2.1 30 = .ok (.iaload, 1) := by decide +kernel
theorem dX10_takeTurn_31 : decode mX10_takeTurn.2.1 31 = .ok (.ifCond .ne 24, 3) := by decide +kernel
theorem dX10_takeTurn_34 : decode mX10_takeTurn.2.1 34 = .ok (.aload_n 0, 1) := by decide +kernel
theorem dX10_takeTurn_35 : decode mX10_takeTurn.2.1 35 = .ok (.getfield 48, 3) := by decide +kernel
theorem dX10_takeTurn_38 : decode mX10_takeTurn.2.1 38 = .ok (.iload_n 1, 1) := by decide +kernel
theorem dX10_takeTurn_39 : decode mX10_takeTurn.2.1 39 = .ok (.invokevirtual 225, 3) := by decide +kernel
theorem dX10_takeTurn_42 : decode mX10_takeTurn.2.1 42 = .ok (.ifCond .ne 13, 3) := by decide +kernel
theorem dX10_takeTurn_45 : decode mX10_takeTurn.2.1 45 = .ok (.aload_n 0, 1) := by decide +kernel
theorem dX10_takeTurn_46 : decode mX10_takeTurn.2.1 46 = .ok (.getfield 48, 3) := by decide +kernel
theorem dX10_takeTurn_49 : decode mX10_takeTurn.2.1 49 = .ok (.getfield 219, 3) := by decide +kernel
theorem dX10_takeTurn_52 : decode mX10_takeTurn.2.1 52 = .ok (.iload_n 1, 1) := by decide +kernel
theorem dX10_takeTurn_53 : decode mX10_takeTurn.2.1 53 = .ok (.iconst 2, 1) := by decide +kernel
theorem dX10_takeTurn_54 : decode mX10_takeTurn.2.1 54 = .ok (.iastore, 1) := by decide +kernel
theorem dX10_takeTurn_55 : decode mX10_takeTurn.2.1 55 = .ok (.aload_n 0, 1) := by decide +kernel
theorem dX10_takeTurn_56 : decode mX10_takeTurn.2.1 56 = .ok (.getfield 48, 3) := by decide +kernel
theorem dX10_takeTurn_59 : decode mX10_takeTurn.2.1 59 = .ok (.getfield 219, 3) := by decide +kernel
theorem dX10_takeTurn_62 : decode mX10_takeTurn.2.1 62 = .ok (.iload_n 1, 1) := by decide +kernel
theorem dX10_takeTurn_63 : decode mX10_takeTurn.2.1 63 = .ok (.iaload, 1) := by decide +kernel
theorem dX10_takeTurn_64 : decode mX10_takeTurn.2.1 64 = .ok (.iconst 1, 1) := by decide +kernel
theorem dX10_takeTurn_65 : decode mX10_takeTurn.2.1 65 = .ok (.if_icmp .ne 45, 3) := by decide +kernel
theorem dX10_takeTurn_68 : decode mX10_takeTurn.2.1 68 = .ok (.aload_n 0, 1) := by decide +kernel
theorem dX10_takeTurn_69 : decode mX10_takeTurn.2.1 69 = .ok (.iload_n 1, 1) := by decide +kernel
theorem dX10_takeTurn_70 : decode mX10_takeTurn.2.1 70 = .ok (.aload_n 0, 1) := by decide +kernel
theorem dX10_takeTurn_71 : decode mX10_takeTurn.2.1 71 = .ok (.getfield 48, 3) := by decide +kernel
theorem dX10_takeTurn_74 : decode mX10_takeTurn.2.1 74 = .ok (.getfield 216, 3) := by decide +kernel
theorem dX10_takeTurn_77 : decode mX10_takeTurn.2.1 77 = .ok (.iload_n 1, 1) := by decide +kernel
theorem dX10_takeTurn_78 : decode mX10_takeTurn.2.1 78 = .ok (.iaload, 1) := by decide +kernel
theorem dX10_takeTurn_79 : decode mX10_takeTurn.2.1 79 = .ok (.invokevirtual 229, 3) := by decide +kernel
theorem dX10_takeTurn_82 : decode mX10_takeTurn.2.1 82 = .ok (.ifCond .eq 20, 3) := by decide +kernel
theorem dX10_takeTurn_85 : decode mX10_takeTurn.2.1 85 = .ok (.aload_n 0, 1) := by decide +kernel
theorem dX10_takeTurn_86 : decode mX10_takeTurn.2.1 86 = .ok (.iload_n 1, 1) := by decide +kernel
theorem dX10_takeTurn_87 : decode mX10_takeTurn.2.1 87 = .ok (.aload_n 0, 1) := by decide +kernel
theorem dX10_takeTurn_88 : decode mX10_takeTurn.2.1 88 = .ok (.getfield 48, 3) := by decide +kernel
theorem dX10_takeTurn_91 : decode mX10_takeTurn.2.1 91 = .ok (.getfield 216, 3) := by decide +kernel
theorem dX10_takeTurn_94 : decode mX10_takeTurn.2.1 94 = .ok (.iload_n 1, 1) := by decide +kernel
theorem dX10_takeTurn_95 : decode mX10_takeTurn.2.1 95 = .ok (.iaload, 1) := by decide +kernel
theorem dX10_takeTurn_96 : decode mX10_takeTurn.2.1 96 = .ok (.invokevirtual 232, 3) := by decide +kernel
theorem dX10_takeTurn_99 : decode mX10_takeTurn.2.1 99 = .ok (.goto 51, 3) := by decide +kernel
theorem dX10_takeTurn_102 : decode mX10_takeTurn.2.1 102 = .ok (.aload_n 0, 1) := by decide +kernel
theorem dX10_takeTurn_103 : decode mX10_takeTurn.2.1 103 = .ok (.iload_n 1, 1) := by decide +kernel
theorem dX10_takeTurn_104 : decode mX10_takeTurn.2.1 104 = .ok (.invokevirtual 235, 3) := by decide +kernel
theorem dX10_takeTurn_107 : decode mX10_takeTurn.2.1 107 = .ok (.goto 43, 3) := by decide +kernel
theorem dX10_takeTurn_110 : decode mX10_takeTurn.2.1 110 = .ok (.aload_n 0, 1) := by decide +kernel
theorem dX10_takeTurn_111 : decode mX10_takeTurn.2.1 111 = .ok (.getfield 48, 3) := by decide +kernel
theorem dX10_takeTurn_114 : decode mX10_takeTurn.2.1 114 = .ok (.getfield 219, 3) := by decide +kernel
theorem dX10_takeTurn_117 : decode mX10_takeTurn.2.1 117 = .ok (.iload_n 1, 1) := by decide +kernel
theorem dX10_takeTurn_118 : decode mX10_takeTurn.2.1 118 = .ok (.iaload, 1) := by decide +kernel
theorem dX10_takeTurn_119 : decode mX10_takeTurn.2.1 119 = .ok (.iconst 2, 1) := by decide +kernel
theorem dX10_takeTurn_120 : decode mX10_takeTurn.2.1 120 = .ok (.if_icmp .ne 30, 3) := by decide +kernel
theorem dX10_takeTurn_123 : decode mX10_takeTurn.2.1 123 = .ok (.aload_n 0, 1) := by decide +kernel
theorem dX10_takeTurn_124 : decode mX10_takeTurn.2.1 124 = .ok (.getfield 48, 3) := by decide +kernel
theorem dX10_takeTurn_127 : decode mX10_takeTurn.2.1 127 = .ok (.iload_n 1, 1) := by decide +kernel
theorem dX10_takeTurn_128 : decode mX10_takeTurn.2.1 128 = .ok (.invokevirtual 238, 3) := by decide +kernel
theorem dX10_takeTurn_131 : decode mX10_takeTurn.2.1 131 = .ok (.ifCond .eq 14, 3) := by decide +kernel
theorem dX10_takeTurn_134 : decode mX10_takeTurn.2.1 134 = .ok (.aload_n 0, 1) := by decide +kernel
theorem dX10_takeTurn_135 : decode mX10_takeTurn.2.1 135 = .ok (.getfield 48, 3) := by decide +kernel
theorem dX10_takeTurn_138 : decode mX10_takeTurn.2.1 138 = .ok (.iload_n 1, 1) := by decide +kernel
theorem dX10_takeTurn_139 : decode mX10_takeTurn.2.1 139 = .ok (.invokevirtual 222, 3) := by decide +kernel
theorem dX10_takeTurn_142 : decode mX10_takeTurn.2.1 142 = .ok (.goto 8, 3) := by decide +kernel
theorem dX10_takeTurn_145 : decode mX10_takeTurn.2.1 145 = .ok (.aload_n 0, 1) := by decide +kernel
theorem dX10_takeTurn_146 : decode mX10_takeTurn.2.1 146 = .ok (.iload_n 1, 1) := by decide +kernel
theorem dX10_takeTurn_147 : decode mX10_takeTurn.2.1 147 = .ok (.invokevirtual 235, 3) := by decide +kernel
theorem dX10_takeTurn_150 : decode mX10_takeTurn.2.1 150 = .ok (.return_, 1) := by decide +kernel
theorem dX10_passHour_0 : decode mX10_passHour.2.1 0 = .ok (.aload_n 0, 1) := by decide +kernel
theorem dX10_passHour_1 : decode mX10_passHour.2.1 1 = .ok (.dup, 1) := by decide +kernel
theorem dX10_passHour_2 : decode mX10_passHour.2.1 2 = .ok (.getfield 66, 3) := by decide +kernel
theorem dX10_passHour_5 : decode mX10_passHour.2.1 5 = .ok (.iconst 1, 1) := by decide +kernel
theorem dX10_passHour_6 : decode mX10_passHour.2.1 6 = .ok (.iadd, 1) := by decide +kernel
theorem dX10_passHour_7 : decode mX10_passHour.2.1 7 = .ok (.putfield 66, 3) := by decide +kernel
theorem dX10_passHour_10 : decode mX10_passHour.2.1 10 = .ok (.aload_n 0, 1) := by decide +kernel
theorem dX10_passHour_11 : decode mX10_passHour.2.1 11 = .ok (.getfield 32, 3) := by decide +kernel
theorem dX10_passHour_14 : decode mX10_passHour.2.1 14 = .ok (.aload_n 0, 1) := by decide +kernel
theorem dX10_passHour_15 : decode mX10_passHour.2.1 15 = .ok (.getfield 21, 3) := by decide +kernel
theorem dX10_passHour_18 : decode mX10_passHour.2.1 18 = .ok (.aload_n 0, 1) := by decide +kernel
theorem dX10_passHour_19 : decode mX10_passHour.2.1 19 = .ok (.getfield 66, 3) := by decide +kernel
theorem dX10_passHour_22 : decode mX10_passHour.2.1 22 = .ok (.aload_n 0, 1) := by decide +kernel
theorem dX10_passHour_23 : decode mX10_passHour.2.1 23 = .ok (.getfield 79, 3) := by decide +kernel
theorem dX10_passHour_26 : decode mX10_passHour.2.1 26 = .ok (.ifCond .ne 10, 3) := by decide +kernel
theorem dX10_passHour_29 : decode mX10_passHour.2.1 29 = .ok (.aload_n 0, 1) := by decide +kernel
theorem dX10_passHour_30 : decode mX10_passHour.2.1 30 = .ok (.getfield 82, 3) := by decide +kernel
theorem dX10_passHour_33 : decode mX10_passHour.2.1 33 = .ok (.goto 4, 3) := by decide +kernel
theorem dX10_passHour_36 : decode mX10_passHour.2.1 36 = .ok (.iconst (-1), 1) := by decide +kernel
theorem dX10_passHour_37 : decode mX10_passHour.2.1 37 = .ok (.invokevirtual 150, 3) := by decide +kernel
theorem dX10_passHour_40 : decode mX10_passHour.2.1 40 = .ok (.invokevirtual 153, 3) := by decide +kernel
theorem dX10_passHour_43 : decode mX10_passHour.2.1 43 = .ok (.aload_n 0, 1) := by decide +kernel
theorem dX10_passHour_44 : decode mX10_passHour.2.1 44 = .ok (.getfield 32, 3) := by decide +kernel
theorem dX10_passHour_47 : decode mX10_passHour.2.1 47 = .ok (.invokevirtual 156, 3) := by decide +kernel
theorem dX10_passHour_50 : decode mX10_passHour.2.1 50 = .ok (.aload_n 0, 1) := by decide +kernel
theorem dX10_passHour_51 : decode mX10_passHour.2.1 51 = .ok (.getfield 32, 3) := by decide +kernel
theorem dX10_passHour_54 : decode mX10_passHour.2.1 54 = .ok (.invokevirtual 159, 3) := by decide +kernel
theorem dX10_passHour_57 : decode mX10_passHour.2.1 57 = .ok (.aload_n 0, 1) := by decide +kernel
theorem dX10_passHour_58 : decode mX10_passHour.2.1 58 = .ok (.invokevirtual 162, 3) := by decide +kernel
theorem dX10_passHour_61 : decode mX10_passHour.2.1 61 = .ok (.iconst 0, 1) := by decide +kernel
theorem dX10_passHour_62 : decode mX10_passHour.2.1 62 = .ok (.istore_n 1, 1) := by decide +kernel
theorem dX10_passHour_63 : decode mX10_passHour.2.1 63 = .ok (.iload_n 1, 1) := by decide +kernel
theorem dX10_passHour_64 : decode mX10_passHour.2.1 64 = .ok (.bipush 8, 2) := by decide +kernel
theorem dX10_passHour_66 : decode mX10_passHour.2.1 66 = .ok (.if_icmp .ge 14, 3) := by decide +kernel
theorem dX10_passHour_69 : decode mX10_passHour.2.1 69 = .ok (.aload_n 0, 1) := by decide +kernel
theorem dX10_passHour_70 : decode mX10_passHour.2.1 70 = .ok (.iload_n 1, 1) := by decide +kernel
theorem dX10_passHour_71 : decode mX10_passHour.2.1 71 = .ok (.invokevirtual 165, 3) := by decide +kernel
theorem dX10_passHour_74 : decode mX10_passHour.2.1 74 = .ok (.iinc 1 1, 3) := by decide +kernel
theorem dX10_passHour_77 : decode mX10_passHour.2.1 77 = .ok (.goto (-14), 3) := by decide +kernel
theorem dX10_passHour_80 : decode mX10_passHour.2.1 80 = .ok (.aload_n 0, 1) := by decide +kernel
theorem dX10_passHour_81 : decode mX10_passHour.2.1 81 = .ok (.getfield 66, 3) := by decide +kernel
theorem dX10_passHour_84 : decode mX10_passHour.2.1 84 = .ok (.bipush 24, 2) := by decide +kernel
theorem dX10_passHour_86 : decode mX10_passHour.2.1 86 = .ok (.irem, 1) := by decide +kernel
theorem dX10_passHour_87 : decode mX10_passHour.2.1 87 = .ok (.ifCond .ne 42, 3) := by decide +kernel
theorem dX10_passHour_90 : decode mX10_passHour.2.1 90 = .ok (.aload_n 0, 1) := by decide +kernel
theorem dX10_passHour_91 : decode mX10_passHour.2.1 91 = .ok (.getfield 41, 3) := by decide +kernel
theorem dX10_passHour_94 : decode mX10_passHour.2.1 94 = .ok (.aload_n 0, 1) := by decide +kernel
theorem dX10_passHour_95 : decode mX10_passHour.2.1 95 = .ok (.getfield 32, 3) := by decide +kernel
theorem dX10_passHour_98 : decode mX10_passHour.2.1 98 = .ok (.invokevirtual 168, 3) := by decide +kernel
theorem dX10_passHour_101 : decode mX10_passHour.2.1 101 = .ok (.aload_n 0, 1) := by decide +kernel
theorem dX10_passHour_102 : decode mX10_passHour.2.1 102 = .ok (.getfield 41, 3) := by decide +kernel
theorem dX10_passHour_105 : decode mX10_passHour.2.1 105 = .ok (.aload_n 0, 1) := by decide +kernel
theorem dX10_passHour_106 : decode mX10_passHour.2.1 106 = .ok (.getfield 18, 3) := by decide +kernel
theorem dX10_passHour_109 : decode mX10_passHour.2.1 109 = .ok (.iconst 2, 1) := by decide +kernel
theorem dX10_passHour_110 : decode mX10_passHour.2.1 110 = .ok (.iaload, 1) := by decide +kernel
theorem dX10_passHour_111 : decode mX10_passHour.2.1 111 = .ok (.aload_n 0, 1) := by decide +kernel
theorem dX10_passHour_112 : decode mX10_passHour.2.1 112 = .ok (.getfield 76, 3) := by decide +kernel
theorem dX10_passHour_115 : decode mX10_passHour.2.1 115 = .ok (.invokevirtual 172, 3) := by decide +kernel
theorem dX10_passHour_118 : decode mX10_passHour.2.1 118 = .ok (.aload_n 0, 1) := by decide +kernel
theorem dX10_passHour_119 : decode mX10_passHour.2.1 119 = .ok (.getfield 41, 3) := by decide +kernel
theorem dX10_passHour_122 : decode mX10_passHour.2.1 122 = .ok (.aload_n 0, 1) := by decide +kernel
theorem dX10_passHour_123 : decode mX10_passHour.2.1 123 = .ok (.getfield 32, 3) := by decide +kernel
theorem dX10_passHour_126 : decode mX10_passHour.2.1 126 = .ok (.invokevirtual 175, 3) := by decide +kernel
theorem dX10_passHour_129 : decode mX10_passHour.2.1 129 = .ok (.return_, 1) := by decide +kernel
theorem dX10_playTo_0 : decode mX10_playTo.2.1 0 = .ok (.aload_n 0, 1) := by decide +kernel
theorem dX10_playTo_1 : decode mX10_playTo.2.1 1 = .ok (.invokevirtual 85, 3) := by decide +kernel
theorem dX10_playTo_4 : decode mX10_playTo.2.1 4 = .ok (.aload_n 0, 1) := by decide +kernel
theorem dX10_playTo_5 : decode mX10_playTo.2.1 5 = .ok (.getfield 66, 3) := by decide +kernel
theorem dX10_playTo_8 : decode mX10_playTo.2.1 8 = .ok (.istore_n 2, 1) := by decide +kernel
theorem dX10_playTo_9 : decode mX10_playTo.2.1 9 = .ok (.iload_n 2, 1) := by decide +kernel
theorem dX10_playTo_10 : decode mX10_playTo.2.1 10 = .ok (.iload_n 1, 1) := by decide +kernel
theorem dX10_playTo_11 : decode mX10_playTo.2.1 11 = .ok (.if_icmp .ge 17, 3) := by decide +kernel
theorem dX10_playTo_14 : decode mX10_playTo.2.1 14 = .ok (.aload_n 0, 1) := by decide +kernel
theorem dX10_playTo_15 : decode mX10_playTo.2.1 15 = .ok (.invokevirtual 88, 3) := by decide +kernel
theorem dX10_playTo_18 : decode mX10_playTo.2.1 18 = .ok (.aload_n 0, 1) := by decide +kernel
theorem dX10_playTo_19 : decode mX10_playTo.2.1 19 = .ok (.invokevirtual 85, 3) := by decide +kernel
theorem dX10_playTo_22 : decode mX10_playTo.2.1 22 = .ok (.iinc 2 1, 3) := by decide +kernel
theorem dX10_playTo_25 : decode mX10_playTo.2.1 25 = .ok (.goto (-16), 3) := by decide +kernel
theorem dX10_playTo_28 : decode mX10_playTo.2.1 28 = .ok (.return_, 1) := by decide +kernel
def w_X10_begin (b : Nat) (a1 : Int32) (a2 : Int32) (M : am_I) (N : am_N) (post : am_I → am_N → Prop) : Prop :=
  w_X2_begin b M N (fun zM1 zN2 => w_X6_begin b zM1 zN2 (fun zM3 zN4 => w_X1_begin b zM3 zN4 (fun zM5 zN6 => post (am_u (am_u (am_u (am_u (am_u (am_u (am_u (am_u (am_u (am_u (am_fill (am_fill zM5 (1, b, 20) 60 3) (1, b, 21) 60 (-1)) (1, b, 22) 0 500) (1, b, 22) 1 200) (1, b, 22) 2 30) (1, b, 22) 3 3) (1, b, 0) 8 0) (1, b, 0) 9 0) (1, b, 0) 10 0) (1, b, 0) 11 0) (1, b, 0) 12 a1) (1, b, 0) 13 a2) zN6)))
set_option maxRecDepth 10000 in
theorem k_X10_begin {d : Nat} {dm : List am_C} {b : Nat} (h1b : am_d1 dm b) {a1 : Int32} {a2 : Int32} {M : am_I} {N : am_N} {post : am_I → am_N → Prop} (h : w_X10_begin b a1 a2 M N post) : jg (d + 3) mX10_begin dm 0 [(0, .inr (.inr (1, b, 0))), (1, .inl a1), (2, .inl a2)] [] M N (am_pv post) := by
  refine j_aload_n 0 dX10_begin_0 rfl ?_
  refine j_getR (b := (1, b, 1)) dX10_begin_1 fsRX10_32 (h1b 0 (by decide)) rfl rfl ?_
  refine j_invV (As := []) dX10_begin_4 msRX10_56 mbX2_begin rfl rfl (Nat.le_of_ble_eq_true rfl) (Nat.le_of_ble_eq_true rfl) (by omega) (h1b 1 (by decide)) rfl rfl (k_X2_begin (d := d + 0) h1b h) ?_
  rintro _ zM1 zN2 ⟨rfl, h⟩
  refine j_aload_n 0 dX10_begin_7 rfl ?_
  refine j_getR (b := (1, b, 6)) dX10_begin_8 fsRX10_41 (h1b 0 (by decide)) rfl rfl ?_
  refine j_invV (As := []) dX10_begin_11 msRX10_58 mbX6_begin rfl rfl (Nat.le_of_ble_eq_true rfl) (Nat.le_of_ble_eq_true rfl) (by omega) (h1b 6 (by decide)) rfl rfl (k_X6_begin (d := d + 0) h1b h) ?_
  rintro _ zM3 zN4 ⟨rfl, h⟩
  refine j_aload_n 0 dX10_begin_14 rfl ?_
  refine j_getR (b := (1, b, 14)) dX10_begin_15 fsRX10_48 (h1b 0 (by decide)) rfl rfl ?_
  refine j_invV (As := []) dX10_begin_18 msRX10_59 mbX1_begin rfl rfl (Nat.le_of_ble_eq_true rfl) (Nat.le_of_ble_eq_true rfl) (by omega) (h1b 14 (by decide)) rfl rfl (k_X1_begin (d := d + 0) h1b h) ?_
  rintro _ zM5 zN6 ⟨rfl, h⟩
  refine j_aload_n 0 dX10_begin_21 rfl ?_
  refine j_getR (b := (1, b, 20)) dX10_begin_22 fsRX10_9 (h1b 0 (by decide)) rfl rfl ?_
  refine j_iconst (v := 3) dX10_begin_25 (by decide) ?_
  refine j_invS (As := [.inr (.inr (1, b, 20)), .inl 3]) dX10_begin_26 msRX10_60 mbJ7_fill_53178 rfl rfl (Nat.le_of_ble_eq_true rfl) (Nat.le_of_ble_eq_true rfl) (by omega) (k_J7_fill_53178 (d := d) (h1b 20 (by decide)) rfl (by decide)) ?_
  rintro _ _ _ ⟨rfl, rfl, rfl⟩
  refine j_aload_n 0 dX10_begin_29 rfl ?_
  refine j_getR (b := (1, b, 21)) dX10_begin_30 fsRX10_15 (h1b 0 (by decide)) rfl rfl ?_
  refine j_iconst (v := (-1)) dX10_begin_33 (by decide) ?_
  refine j_invS (As := [.inr (.inr (1, b, 21)), .inl (-1)]) dX10_begin_34 msRX10_60 mbJ7_fill_53178 rfl rfl (Nat.le_of_ble_eq_true rfl) (Nat.le_of_ble_eq_true rfl) (by omega) (k_J7_fill_53178 (d := d) (h1b 21 (by decide)) rfl (by decide)) ?_
  rintro _ _ _ ⟨rfl, rfl, rfl⟩
  refine j_aload_n 0 dX10_begin_37 rfl ?_
  refine j_getR (b := (1, b, 22)) dX10_begin_38 fsRX10_18 (h1b 0 (by decide)) rfl rfl ?_
  refine j_iconst (v := 0) dX10_begin_41 (by decide) ?_
  refine j_sipush (v := 500) dX10_begin_42 (by decide) ?_
  refine j_iast dX10_begin_45 (h1b 22 (by decide)) rfl (by unfold vp_in; decide) ?_
  refine j_aload_n 0 dX10_begin_46 rfl ?_
  refine j_getR (b := (1, b, 22)) dX10_begin_47 fsRX10_18 (h1b 0 (by decide)) rfl rfl ?_
  refine j_iconst (v := 1) dX10_begin_50 (by decide) ?_
  refine j_sipush (v := 200) dX10_begin_51 (by decide) ?_
  refine j_iast dX10_begin_54 (h1b 22 (by decide)) rfl (by unfold vp_in; decide) ?_
  refine j_aload_n 0 dX10_begin_55 rfl ?_
  refine j_getR (b := (1, b, 22)) dX10_begin_56 fsRX10_18 (h1b 0 (by decide)) rfl rfl ?_
  refine j_iconst (v := 2) dX10_begin_59 (by decide) ?_
  refine j_bipush (v := 30) dX10_begin_60 (by decide) ?_
  refine j_iast dX10_begin_62 (h1b 22 (by decide)) rfl (by unfold vp_in; decide) ?_
  refine j_aload_n 0 dX10_begin_63 rfl ?_
  refine j_getR (b := (1, b, 22)) dX10_begin_64 fsRX10_18 (h1b 0 (by decide)) rfl rfl ?_
  refine j_iconst (v := 3) dX10_begin_67 (by decide) ?_
  refine j_iconst (v := 3) dX10_begin_68 (by decide) ?_
  refine j_iast dX10_begin_69 (h1b 22 (by decide)) rfl (by unfold vp_in; decide) ?_
  refine j_aload_n 0 dX10_begin_70 rfl ?_
  refine j_iconst (v := 0) dX10_begin_71 (by decide) ?_
  refine j_putI dX10_begin_72 fwRX10_66 (h1b 0 (by decide)) rfl ?_
  refine j_aload_n 0 dX10_begin_75 rfl ?_
  refine j_iconst (v := 0) dX10_begin_76 (by decide) ?_
  refine j_putI dX10_begin_77 fwRX10_70 (h1b 0 (by decide)) rfl ?_
  refine j_aload_n 0 dX10_begin_80 rfl ?_
  refine j_iconst (v := 0) dX10_begin_81 (by decide) ?_
  refine j_putI dX10_begin_82 fwRX10_73 (h1b 0 (by decide)) rfl ?_
  refine j_aload_n 0 dX10_begin_85 rfl ?_
  refine j_iconst (v := 0) dX10_begin_86 (by decide) ?_
  refine j_putI dX10_begin_87 fwRX10_76 (h1b 0 (by decide)) rfl ?_
  refine j_aload_n 0 dX10_begin_90 rfl ?_
  refine j_iload_n 1 dX10_begin_91 rfl ?_
  refine j_putI dX10_begin_92 fwRX10_79 (h1b 0 (by decide)) rfl ?_
  refine j_aload_n 0 dX10_begin_95 rfl ?_
  refine j_iload_n 2 dX10_begin_96 rfl ?_
  refine j_putI dX10_begin_97 fwRX10_82 (h1b 0 (by decide)) rfl ?_
  exact j_vret dX10_begin_100 rfl ⟨rfl, h⟩
def w_X10_leavesOut (b : Nat) (a1 : Int32) (a2 : Int32) (M : am_I) (N : am_N) (post : Int32 → am_I → am_N → Prop) : Prop :=
  ((¬ (M (1, b, 0) 12) = a1 → post 0 M N) ∧ ((M (1, b, 0) 12) = a1 → ((¬ (M (1, b, 0) 13) = a2 → post 0 M N) ∧ ((M (1, b, 0) 13) = a2 → post 1 M N))))
set_option maxRecDepth 10000 in
theorem k_X10_leavesOut {d : Nat} {dm : List am_C} {b : Nat} (h1b : am_d1 dm b) {a1 : Int32} {a2 : Int32} {M : am_I} {N : am_N} {post : Int32 → am_I → am_N → Prop} (h : w_X10_leavesOut b a1 a2 M N post) : jg (d + 1) mX10_leavesOut dm 0 [(0, .inr (.inr (1, b, 0))), (1, .inl a1), (2, .inl a2)] [] M N (am_pi post) := by
  refine j_aload_n 0 dX10_leavesOut_0 rfl ?_
  refine j_getI dX10_leavesOut_1 fsRX10_79 (h1b 0 (by decide)) rfl ?_
  refine j_iload_n 1 dX10_leavesOut_4 rfl ?_
  refine j_icmp_ne (tgt := 20) dX10_leavesOut_5 (by decide) (fun hc => ?_) (fun hc => ?_)
  · replace h := h.1 hc
    refine j_iconst (v := 0) dX10_leavesOut_20 (by decide) ?_
    exact j_zret dX10_leavesOut_21 rfl (Or.inl rfl) ⟨_, rfl, h⟩
  · replace h := h.2 hc
    refine j_aload_n 0 dX10_leavesOut_8 rfl ?_
    refine j_getI dX10_leavesOut_9 fsRX10_82 (h1b 0 (by decide)) rfl ?_
    refine j_iload_n 2 dX10_leavesOut_12 rfl ?_
    refine j_icmp_ne (tgt := 20) dX10_leavesOut_13 (by decide) (fun hc => ?_) (fun hc => ?_)
    · replace h := h.1 hc
      refine j_iconst (v := 0) dX10_leavesOut_20 (by decide) ?_
      exact j_zret dX10_leavesOut_21 rfl (Or.inl rfl) ⟨_, rfl, h⟩
    · replace h := h.2 hc
      refine j_iconst (v := 1) dX10_leavesOut_16 (by decide) ?_
      refine j_goto (tgt := 21) dX10_leavesOut_17 (by decide) ?_
      exact j_zret dX10_leavesOut_21 rfl (Or.inr rfl) ⟨_, rfl, h⟩
def w_X10_ofKind_p4_b (b : Nat) (post : Int32 → am_I → am_N → Prop) (zk4 : Int32 → Int32 → Int32 → am_I → am_N → Prop) (l1 : Int32) (l2 : Int32) (l3 : Int32) (M : am_I) (N : am_N) : Prop :=
  (((M (2, 2, 0) 3) ≤ l3 → post l2 M N) ∧ (¬ (M (2, 2, 0) 3) ≤ l3 → w_X9_at 2 l3 0 M N (fun zr1 zM2 zN3 => ((¬ zr1 = l1 → zk4 l1 l2 (l3 + 1) zM2 zN3) ∧ (zr1 = l1 → ∀ zv4 : Int32, zv4 = l2 ||| ((1 : Int32) <<< (l3 &&& 31)) → zk4 l1 zv4 (l3 + 1) zM2 zN3)))))
noncomputable def w_X10_ofKind_p4 (b : Nat) (post : Int32 → am_I → am_N → Prop) (n : Nat) : Int32 → Int32 → Int32 → am_I → am_N → Prop :=
  Nat.rec (motive := fun _ => Int32 → Int32 → Int32 → am_I → am_N → Prop) (fun _ _ _ _ _ => False) (fun _ zk => w_X10_ofKind_p4_b b post zk) n
theorem w_X10_ofKind_p4_s (b : Nat) (post : Int32 → am_I → am_N → Prop) (n : Nat) (l1 : Int32) (l2 : Int32) (l3 : Int32) (M : am_I) (N : am_N) : w_X10_ofKind_p4 b post (n + 1) l1 l2 l3 M N = w_X10_ofKind_p4_b b post (w_X10_ofKind_p4 b post n) l1 l2 l3 M N := rfl
set_option maxRecDepth 10000 in
theorem k_X10_ofKind_p4 {d : Nat} {dm : List am_C} {b : Nat} (h0 : am_d0 dm) (h1b : am_d1 dm b) (h2 : am_d2 dm) {post : Int32 → am_I → am_N → Prop} : ∀ (n : Nat) (l1 : Int32) (l2 : Int32) (l3 : Int32) (M : am_I) (N : am_N), w_X10_ofKind_p4 b post n l1 l2 l3 M N → jg (d + 2) mX10_ofKind dm 4 [(0, .inr (.inr (1, b, 0))), (1, .inl l1), (2, .inl l2), (3, .inl l3)] [] M N (am_pi post) := by
  intro n
  induction n with
  | zero => intro l1 l2 l3 M N h; exact h.elim
  | succ n zih =>
    intro l1 l2 l3 M N h
    replace h : w_X10_ofKind_p4_b b post (w_X10_ofKind_p4 b post n) l1 l2 l3 M N := h
    refine j_iload_n 3 dX10_ofKind_4 rfl ?_
    refine j_aload_n 0 dX10_ofKind_5 rfl ?_
    refine j_getR (b := (0, 0, 1)) dX10_ofKind_6 fsRX10_21 (h1b 0 (by decide)) rfl rfl ?_
    refine j_getR (b := (2, 2, 0)) dX10_ofKind_9 fsRX10_189 (h0 1 (by decide)) rfl rfl ?_
    refine j_getI dX10_ofKind_12 fsRX10_97 (h2 2 (by decide) 0 (by decide)) rfl ?_
    refine j_icmp_ge (tgt := 46) dX10_ofKind_15 (by decide) (fun hc => ?_) (fun hc => ?_)
    · replace h := h.1 hc
      refine j_iload_n 2 dX10_ofKind_46 rfl ?_
      exact j_iret dX10_ofKind_47 rfl ⟨_, rfl, h⟩
    · replace h := h.2 hc
      refine j_aload_n 0 dX10_ofKind_18 rfl ?_
      refine j_getR (b := (0, 0, 1)) dX10_ofKind_19 fsRX10_21 (h1b 0 (by decide)) rfl rfl ?_
      refine j_getR (b := (2, 2, 0)) dX10_ofKind_22 fsRX10_189 (h0 1 (by decide)) rfl rfl ?_
      refine j_iload_n 3 dX10_ofKind_25 rfl ?_
      refine j_iconst (v := 0) dX10_ofKind_26 (by decide) ?_
      refine j_invV (As := [.inl l3, .inl 0]) dX10_ofKind_27 msRX10_102 mbX9_at rfl rfl (Nat.le_of_ble_eq_true rfl) (Nat.le_of_ble_eq_true rfl) (by omega) (h2 2 (by decide) 0 (by decide)) rfl rfl (k_X9_at (d := d + 0) h2 (by decide) h) ?_
      rintro _ zM2 zN3 ⟨zr1, rfl, h⟩
      refine j_iload_n 1 dX10_ofKind_30 rfl ?_
      refine j_icmp_ne (tgt := 40) dX10_ofKind_31 (by decide) (fun hc => ?_) (fun hc => ?_)
      · replace h := h.1 hc
        refine j_iinc 3 dX10_ofKind_40 rfl rfl (by decide) rfl ?_
        refine j_goto (tgt := 4) dX10_ofKind_43 (by decide) ?_
        refine j_sub [1, 2, 3, 0] rfl ?_
        exact zih _ _ _ _ _ h
      · replace h := h.2 hc
        refine j_iload_n 2 dX10_ofKind_34 rfl ?_
        refine j_iconst (v := 1) dX10_ofKind_35 (by decide) ?_
        refine j_iload_n 3 dX10_ofKind_36 rfl ?_
        refine j_ishl dX10_ofKind_37 ?_
        refine j_ior dX10_ofKind_38 ?_
        refine j_topi (fun zv4 hzv4 => ?_)
        replace h := h zv4 hzv4
        refine j_istore_n dX10_ofKind_39 (by decide) rfl ?_
        refine j_iinc 3 dX10_ofKind_40 rfl rfl (by decide) rfl ?_
        refine j_goto (tgt := 4) dX10_ofKind_43 (by decide) ?_
        refine j_sub [2, 3, 1, 0] rfl ?_
        exact zih _ _ _ _ _ h
def w_X10_ofKind (b : Nat) (a1 : Int32) (M : am_I) (N : am_N) (post : Int32 → am_I → am_N → Prop) : Prop :=
  ∃ n, w_X10_ofKind_p4 b post n a1 0 0 M N
set_option maxRecDepth 10000 in
theorem k_X10_ofKind {d : Nat} {dm : List am_C} {b : Nat} (h0 : am_d0 dm) (h1b : am_d1 dm b) (h2 : am_d2 dm) {a1 : Int32} {M : am_I} {N : am_N} {post : Int32 → am_I → am_N → Prop} (h : w_X10_ofKind b a1 M N post) : jg (d + 2) mX10_ofKind dm 0 [(0, .inr (.inr (1, b, 0))), (1, .inl a1)] [] M N (am_pi post) := by
  refine j_iconst (v := 0) dX10_ofKind_0 (by decide) ?_
  refine j_istore_n dX10_ofKind_1 (by decide) rfl ?_
  refine j_iconst (v := 0) dX10_ofKind_2 (by decide) ?_
  refine j_istore_n dX10_ofKind_3 (by decide) rfl ?_
  refine j_sub [2, 3, 1, 0] rfl ?_
  obtain ⟨n, h⟩ := h
  exact k_X10_ofKind_p4 h0 h1b h2 n _ _ _ _ _ h
def w_X10_takeOn (b : Nat) (a1 : Int32) (a2 : Int32) (M : am_I) (N : am_N) (post : am_I → am_N → Prop) : Prop :=
  vp_in a2 60 ∧ vp_in a2 60 ∧ vp_in a1 8 ∧ vp_in a1 8 ∧ post (am_u (am_u (am_u (am_u M (1, b, 20) a2.toNatClampNeg 1) (1, b, 21) a2.toNatClampNeg a1) (1, b, 18) a1.toNatClampNeg a2) (1, b, 17) a1.toNatClampNeg 1) N
set_option maxRecDepth 10000 in
theorem k_X10_takeOn {d : Nat} {dm : List am_C} {b : Nat} (h1b : am_d1 dm b) {a1 : Int32} {a2 : Int32} {M : am_I} {N : am_N} {post : am_I → am_N → Prop} (h : w_X10_takeOn b a1 a2 M N post) : jg (d + 1) mX10_takeOn dm 0 [(0, .inr (.inr (1, b, 0))), (1, .inl a1), (2, .inl a2)] [] M N (am_pv post) := by
  refine j_aload_n 0 dX10_takeOn_0 rfl ?_
  refine j_getR (b := (1, b, 20)) dX10_takeOn_1 fsRX10_9 (h1b 0 (by decide)) rfl rfl ?_
  refine j_iload_n 2 dX10_takeOn_4 rfl ?_
  refine j_iconst (v := 1) dX10_takeOn_5 (by decide) ?_
  obtain ⟨hq, h⟩ := h
  refine j_iast dX10_takeOn_6 (h1b 20 (by decide)) rfl hq ?_
  refine j_aload_n 0 dX10_takeOn_7 rfl ?_
  refine j_getR (b := (1, b, 21)) dX10_takeOn_8 fsRX10_15 (h1b 0 (by decide)) rfl rfl ?_
  refine j_iload_n 2 dX10_takeOn_11 rfl ?_
  refine j_iload_n 1 dX10_takeOn_12 rfl ?_
  obtain ⟨hq, h⟩ := h
  refine j_iast dX10_takeOn_13 (h1b 21 (by decide)) rfl hq ?_
  refine j_aload_n 0 dX10_takeOn_14 rfl ?_
  refine j_getR (b := (1, b, 14)) dX10_takeOn_15 fsRX10_48 (h1b 0 (by decide)) rfl rfl ?_
  refine j_getR (b := (1, b, 18)) dX10_takeOn_18 fsRX10_216 (h1b 14 (by decide)) rfl rfl ?_
  refine j_iload_n 1 dX10_takeOn_21 rfl ?_
  refine j_iload_n 2 dX10_takeOn_22 rfl ?_
  obtain ⟨hq, h⟩ := h
  refine j_iast dX10_takeOn_23 (h1b 18 (by decide)) rfl hq ?_
  refine j_aload_n 0 dX10_takeOn_24 rfl ?_
  refine j_getR (b := (1, b, 14)) dX10_takeOn_25 fsRX10_48 (h1b 0 (by decide)) rfl rfl ?_
  refine j_getR (b := (1, b, 17)) dX10_takeOn_28 fsRX10_219 (h1b 14 (by decide)) rfl rfl ?_
  refine j_iload_n 1 dX10_takeOn_31 rfl ?_
  refine j_iconst (v := 1) dX10_takeOn_32 (by decide) ?_
  obtain ⟨hq, h⟩ := h
  refine j_iast dX10_takeOn_33 (h1b 17 (by decide)) rfl hq ?_
  exact j_vret dX10_takeOn_34 rfl ⟨rfl, h⟩
def w_X10_worksThatAre_p4_b (b : Nat) (post : Int32 → am_I → am_N → Prop) (zk4 : Int32 → Int32 → Int32 → am_I → am_N → Prop) (l1 : Int32) (l2 : Int32) (l3 : Int32) (M : am_I) (N : am_N) : Prop :=
  ((60 ≤ l3 → post l2 M N) ∧ (¬ 60 ≤ l3 → vp_in l3 60 ∧ ((¬ (M (1, b, 20) l3.toNatClampNeg) = l1 → zk4 l1 l2 (l3 + 1) M N) ∧ ((M (1, b, 20) l3.toNatClampNeg) = l1 → zk4 l1 (l2 + 1) (l3 + 1) M N))))
noncomputable def w_X10_worksThatAre_p4 (b : Nat) (post : Int32 → am_I → am_N → Prop) (n : Nat) : Int32 → Int32 → Int32 → am_I → am_N → Prop :=
  Nat.rec (motive := fun _ => Int32 → Int32 → Int32 → am_I → am_N → Prop) (fun _ _ _ _ _ => False) (fun _ zk => w_X10_worksThatAre_p4_b b post zk) n
theorem w_X10_worksThatAre_p4_s (b : Nat) (post : Int32 → am_I → am_N → Prop) (n : Nat) (l1 : Int32) (l2 : Int32) (l3 : Int32) (M : am_I) (N : am_N) : w_X10_worksThatAre_p4 b post (n + 1) l1 l2 l3 M N = w_X10_worksThatAre_p4_b b post (w_X10_worksThatAre_p4 b post n) l1 l2 l3 M N := rfl
set_option maxRecDepth 10000 in
theorem k_X10_worksThatAre_p4 {d : Nat} {dm : List am_C} {b : Nat} (h1b : am_d1 dm b) {post : Int32 → am_I → am_N → Prop} : ∀ (n : Nat) (l1 : Int32) (l2 : Int32) (l3 : Int32) (M : am_I) (N : am_N), w_X10_worksThatAre_p4 b post n l1 l2 l3 M N → jg (d + 1) mX10_worksThatAre dm 4 [(0, .inr (.inr (1, b, 0))), (1, .inl l1), (2, .inl l2), (3, .inl l3)] [] M N (am_pi post) := by
  intro n
  induction n with
  | zero => intro l1 l2 l3 M N h; exact h.elim
  | succ n zih =>
    intro l1 l2 l3 M N h
    replace h : w_X10_worksThatAre_p4_b b post (w_X10_worksThatAre_p4 b post n) l1 l2 l3 M N := h
    refine j_iload_n 3 dX10_worksThatAre_4 rfl ?_
    refine j_bipush (v := 60) dX10_worksThatAre_5 (by decide) ?_
    refine j_icmp_ge (tgt := 29) dX10_worksThatAre_7 (by decide) (fun hc => ?_) (fun hc => ?_)
    · replace h := h.1 hc
      refine j_iload_n 2 dX10_worksThatAre_29 rfl ?_
      exact j_iret dX10_worksThatAre_30 rfl ⟨_, rfl, h⟩
    · replace h := h.2 hc
      refine j_aload_n 0 dX10_worksThatAre_10 rfl ?_
      refine j_getR (b := (1, b, 20)) dX10_worksThatAre_11 fsRX10_9 (h1b 0 (by decide)) rfl rfl ?_
      refine j_iload_n 3 dX10_worksThatAre_14 rfl ?_
      obtain ⟨hq, h⟩ := h
      refine j_iald dX10_worksThatAre_15 (h1b 20 (by decide)) rfl hq ?_
      refine j_iload_n 1 dX10_worksThatAre_16 rfl ?_
      refine j_icmp_ne (tgt := 23) dX10_worksThatAre_17 (by decide) (fun hc => ?_) (fun hc => ?_)
      · replace h := h.1 hc
        refine j_iinc 3 dX10_worksThatAre_23 rfl rfl (by decide) rfl ?_
        refine j_goto (tgt := 4) dX10_worksThatAre_26 (by decide) ?_
        refine j_sub [1, 2, 3, 0] rfl ?_
        exact zih _ _ _ _ _ h
      · replace h := h.2 hc
        refine j_iinc 2 dX10_worksThatAre_20 rfl rfl (by decide) rfl ?_
        refine j_iinc 3 dX10_worksThatAre_23 rfl rfl (by decide) rfl ?_
        refine j_goto (tgt := 4) dX10_worksThatAre_26 (by decide) ?_
        refine j_sub [2, 3, 1, 0] rfl ?_
        exact zih _ _ _ _ _ h
def w_X10_worksThatAre (b : Nat) (a1 : Int32) (M : am_I) (N : am_N) (post : Int32 → am_I → am_N → Prop) : Prop :=
  ∃ n, w_X10_worksThatAre_p4 b post n a1 0 0 M N
set_option maxRecDepth 10000 in
theorem k_X10_worksThatAre {d : Nat} {dm : List am_C} {b : Nat} (h1b : am_d1 dm b) {a1 : Int32} {M : am_I} {N : am_N} {post : Int32 → am_I → am_N → Prop} (h : w_X10_worksThatAre b a1 M N post) : jg (d + 1) mX10_worksThatAre dm 0 [(0, .inr (.inr (1, b, 0))), (1, .inl a1)] [] M N (am_pi post) := by
  refine j_iconst (v := 0) dX10_worksThatAre_0 (by decide) ?_
  refine j_istore_n dX10_worksThatAre_1 (by decide) rfl ?_
  refine j_iconst (v := 0) dX10_worksThatAre_2 (by decide) ?_
  refine j_istore_n dX10_worksThatAre_3 (by decide) rfl ?_
  refine j_sub [2, 3, 1, 0] rfl ?_
  obtain ⟨n, h⟩ := h
  exact k_X10_worksThatAre_p4 h1b n _ _ _ _ _ h
def w_X10_adjust (b : Nat) (a1 : Int32) (a2 : Int32) (M : am_I) (N : am_N) (post : am_I → am_N → Prop) : Prop :=
  w_X11_within a1 0 3 M N (fun zr1 zM2 zN3 => ((zr1 = 0 → post zM2 zN3) ∧ (¬ zr1 = 0 → vp_in a1 4 ∧ post (am_u zM2 (1, b, 22) a1.toNatClampNeg a2) zN3)))
set_option maxRecDepth 10000 in
theorem k_X10_adjust {d : Nat} {dm : List am_C} {b : Nat} (h1b : am_d1 dm b) {a1 : Int32} {a2 : Int32} {M : am_I} {N : am_N} {post : am_I → am_N → Prop} (h : w_X10_adjust b a1 a2 M N post) : jg (d + 2) mX10_adjust dm 0 [(0, .inr (.inr (1, b, 0))), (1, .inl a1), (2, .inl a2)] [] M N (am_pv post) := by
  refine j_iload_n 1 dX10_adjust_0 rfl ?_
  refine j_iconst (v := 0) dX10_adjust_1 (by decide) ?_
  refine j_iconst (v := 3) dX10_adjust_2 (by decide) ?_
  refine j_invS (As := [.inl a1, .inl 0, .inl 3]) dX10_adjust_3 msRX10_139 mbX11_within rfl rfl (Nat.le_of_ble_eq_true rfl) (Nat.le_of_ble_eq_true rfl) (by omega) (k_X11_within (d := d + 0)  h) ?_
  rintro _ zM2 zN3 ⟨zr1, rfl, h⟩
  refine j_if_eq (tgt := 16) dX10_adjust_6 (by decide) (fun hc => ?_) (fun hc => ?_)
  · replace h := h.1 hc
    exact j_vret dX10_adjust_16 rfl ⟨rfl, h⟩
  · replace h := h.2 hc
    refine j_aload_n 0 dX10_adjust_9 rfl ?_
    refine j_getR (b := (1, b, 22)) dX10_adjust_10 fsRX10_18 (h1b 0 (by decide)) rfl rfl ?_
    refine j_iload_n 1 dX10_adjust_13 rfl ?_
    refine j_iload_n 2 dX10_adjust_14 rfl ?_
    obtain ⟨hq, h⟩ := h
    refine j_iast dX10_adjust_15 (h1b 22 (by decide)) rfl hq ?_
    exact j_vret dX10_adjust_16 rfl ⟨rfl, h⟩
def w_X10_bringCart (b : Nat) (a1 : Int32) (M : am_I) (N : am_N) (post : am_I → am_N → Prop) : Prop :=
  w_X10_leavesOut b 1 a1 M N (fun zr1 zM2 zN3 => ((¬ zr1 = 0 → post zM2 zN3) ∧ (zr1 = 0 → w_X1_bring b a1 zM2 zN3 (fun zM4 zN5 => post zM4 zN5))))
set_option maxRecDepth 10000 in
theorem k_X10_bringCart {d : Nat} {dm : List am_C} {b : Nat} (h0 : am_d0 dm) (h1b : am_d1 dm b) (h2 : am_d2 dm) {a1 : Int32} {M : am_I} {N : am_N} {post : am_I → am_N → Prop} (h : w_X10_bringCart b a1 M N post) : jg (d + 3) mX10_bringCart dm 0 [(0, .inr (.inr (1, b, 0))), (1, .inl a1)] [] M N (am_pv post) := by
  refine j_aload_n 0 dX10_bringCart_0 rfl ?_
  refine j_iconst (v := 1) dX10_bringCart_1 (by decide) ?_
  refine j_iload_n 1 dX10_bringCart_2 rfl ?_
  refine j_invV (As := [.inl 1, .inl a1]) dX10_bringCart_3 msRX10_143 mbX10_leavesOut rfl rfl (Nat.le_of_ble_eq_true rfl) (Nat.le_of_ble_eq_true rfl) (by omega) (h1b 0 (by decide)) rfl rfl (k_X10_leavesOut (d := d + 1) h1b h) ?_
  rintro _ zM2 zN3 ⟨zr1, rfl, h⟩
  refine j_if_ne (tgt := 17) dX10_bringCart_6 (by decide) (fun hc => ?_) (fun hc => ?_)
  · replace h := h.1 hc
    exact j_vret dX10_bringCart_17 rfl ⟨rfl, h⟩
  · replace h := h.2 hc
    refine j_aload_n 0 dX10_bringCart_9 rfl ?_
    refine j_getR (b := (1, b, 14)) dX10_bringCart_10 fsRX10_48 (h1b 0 (by decide)) rfl rfl ?_
    refine j_iload_n 1 dX10_bringCart_13 rfl ?_
    refine j_invV (As := [.inl a1]) dX10_bringCart_14 msRX10_147 mbX1_bring rfl rfl (Nat.le_of_ble_eq_true rfl) (Nat.le_of_ble_eq_true rfl) (by omega) (h1b 14 (by decide)) rfl rfl (k_X1_bring (d := d + 0) h0 h1b h2 h) ?_
    rintro _ zM4 zN5 ⟨rfl, h⟩
    exact j_vret dX10_bringCart_17 rfl ⟨rfl, h⟩
def w_X10_openWork (b : Nat) (a1 : Int32) (M : am_I) (N : am_N) (post : am_I → am_N → Prop) : Prop :=
  w_X11_within a1 0 59 M N (fun zr1 zM2 zN3 => ((zr1 = 0 → post zM2 zN3) ∧ (¬ zr1 = 0 → w_X10_leavesOut b 2 a1 zM2 zN3 (fun zr4 zM5 zN6 => ((¬ zr4 = 0 → post zM5 zN6) ∧ (zr4 = 0 → vp_in a1 60 ∧ post (am_u zM5 (1, b, 20) a1.toNatClampNeg 0) zN6))))))
set_option maxRecDepth 10000 in
theorem k_X10_openWork {d : Nat} {dm : List am_C} {b : Nat} (h1b : am_d1 dm b) {a1 : Int32} {M : am_I} {N : am_N} {post : am_I → am_N → Prop} (h : w_X10_openWork b a1 M N post) : jg (d + 2) mX10_openWork dm 0 [(0, .inr (.inr (1, b, 0))), (1, .inl a1)] [] M N (am_pv post) := by
  refine j_iload_n 1 dX10_openWork_0 rfl ?_
  refine j_iconst (v := 0) dX10_openWork_1 (by decide) ?_
  refine j_bipush (v := 59) dX10_openWork_2 (by decide) ?_
  refine j_invS (As := [.inl a1, .inl 0, .inl 59]) dX10_openWork_4 msRX10_139 mbX11_within rfl rfl (Nat.le_of_ble_eq_true rfl) (Nat.le_of_ble_eq_true rfl) (by omega) (k_X11_within (d := d + 0)  h) ?_
  rintro _ zM2 zN3 ⟨zr1, rfl, h⟩
  refine j_if_eq (tgt := 26) dX10_openWork_7 (by decide) (fun hc => ?_) (fun hc => ?_)
  · replace h := h.1 hc
    exact j_vret dX10_openWork_26 rfl ⟨rfl, h⟩
  · replace h := h.2 hc
    refine j_aload_n 0 dX10_openWork_10 rfl ?_
    refine j_iconst (v := 2) dX10_openWork_11 (by decide) ?_
    refine j_iload_n 1 dX10_openWork_12 rfl ?_
    refine j_invV (As := [.inl 2, .inl a1]) dX10_openWork_13 msRX10_143 mbX10_leavesOut rfl rfl (Nat.le_of_ble_eq_true rfl) (Nat.le_of_ble_eq_true rfl) (by omega) (h1b 0 (by decide)) rfl rfl (k_X10_leavesOut (d := d + 0) h1b h) ?_
    rintro _ zM5 zN6 ⟨zr4, rfl, h⟩
    refine j_if_ne (tgt := 26) dX10_openWork_16 (by decide) (fun hc => ?_) (fun hc => ?_)
    · replace h := h.1 hc
      exact j_vret dX10_openWork_26 rfl ⟨rfl, h⟩
    · replace h := h.2 hc
      refine j_aload_n 0 dX10_openWork_19 rfl ?_
      refine j_getR (b := (1, b, 20)) dX10_openWork_20 fsRX10_9 (h1b 0 (by decide)) rfl rfl ?_
      refine j_iload_n 1 dX10_openWork_23 rfl ?_
      refine j_iconst (v := 0) dX10_openWork_24 (by decide) ?_
      obtain ⟨hq, h⟩ := h
      refine j_iast dX10_openWork_25 (h1b 20 (by decide)) rfl hq ?_
      exact j_vret dX10_openWork_26 rfl ⟨rfl, h⟩
def w_X10_goalOf (b : Nat) (a1 : Int32) (a2 : Int32) (M : am_I) (N : am_N) (post : Int32 → am_I → am_N → Prop) : Prop :=
  w_X9_at 3 a2 1 M N (fun zr1 zM2 zN3 => w_X9_at 3 a2 0 zM2 zN3 (fun zr4 zM5 zN6 => ((¬ zr4 = 3 → post zr1 zM5 zN6) ∧ (zr4 = 3 → w_X5_nearestBeside a1 zr1 zM5 zN6 (fun zr7 zM8 zN9 => post zr7 zM8 zN9)))))
set_option maxRecDepth 10000 in
theorem k_X10_goalOf {d : Nat} {dm : List am_C} {b : Nat} (h0 : am_d0 dm) (h1b : am_d1 dm b) (h2 : am_d2 dm) {a1 : Int32} {a2 : Int32} {M : am_I} {N : am_N} {post : Int32 → am_I → am_N → Prop} (h : w_X10_goalOf b a1 a2 M N post) : jg (d + 3) mX10_goalOf dm 0 [(0, .inr (.inr (1, b, 0))), (1, .inl a1), (2, .inl a2)] [] M N (am_pi post) := by
  refine j_aload_n 0 dX10_goalOf_0 rfl ?_
  refine j_getR (b := (0, 0, 1)) dX10_goalOf_1 fsRX10_21 (h1b 0 (by decide)) rfl rfl ?_
  refine j_getR (b := (2, 3, 0)) dX10_goalOf_4 fsRX10_182 (h0 1 (by decide)) rfl rfl ?_
  refine j_iload_n 2 dX10_goalOf_7 rfl ?_
  refine j_iconst (v := 1) dX10_goalOf_8 (by decide) ?_
  refine j_invV (As := [.inl a2, .inl 1]) dX10_goalOf_9 msRX10_102 mbX9_at rfl rfl (Nat.le_of_ble_eq_true rfl) (Nat.le_of_ble_eq_true rfl) (by omega) (h2 3 (by decide) 0 (by decide)) rfl rfl (k_X9_at (d := d + 1) h2 (by decide) h) ?_
  rintro _ zM2 zN3 ⟨zr1, rfl, h⟩
  refine j_istore_n dX10_goalOf_12 (by decide) rfl ?_
  refine j_aload_n 1 dX10_goalOf_13 rfl ?_
  refine j_getR (b := (0, 0, 1)) dX10_goalOf_14 fsRX10_21 (h1b 0 (by decide)) rfl rfl ?_
  refine j_getR (b := (2, 3, 0)) dX10_goalOf_17 fsRX10_182 (h0 1 (by decide)) rfl rfl ?_
  refine j_iload_n 3 dX10_goalOf_20 rfl ?_
  refine j_iconst (v := 0) dX10_goalOf_21 (by decide) ?_
  refine j_invV (As := [.inl a2, .inl 0]) dX10_goalOf_22 msRX10_102 mbX9_at rfl rfl (Nat.le_of_ble_eq_true rfl) (Nat.le_of_ble_eq_true rfl) (by omega) (h2 3 (by decide) 0 (by decide)) rfl rfl (k_X9_at (d := d + 1) h2 (by decide) h) ?_
  rintro _ zM5 zN6 ⟨zr4, rfl, h⟩
  refine j_iconst (v := 3) dX10_goalOf_25 (by decide) ?_
  refine j_icmp_ne (tgt := 41) dX10_goalOf_26 (by decide) (fun hc => ?_) (fun hc => ?_)
  · replace h := h.1 hc
    refine j_iload_n 0 dX10_goalOf_41 rfl ?_
    exact j_iret dX10_goalOf_42 rfl ⟨_, rfl, h⟩
  · replace h := h.2 hc
    refine j_aload_n 1 dX10_goalOf_29 rfl ?_
    refine j_getR (b := (0, 0, 2)) dX10_goalOf_30 fsRX10_25 (h1b 0 (by decide)) rfl rfl ?_
    refine j_iload_n 2 dX10_goalOf_33 rfl ?_
    refine j_iload_n 0 dX10_goalOf_34 rfl ?_
    refine j_invV (As := [.inl a1, .inl zr1]) dX10_goalOf_35 msRX10_213 mbX5_nearestBeside rfl rfl (Nat.le_of_ble_eq_true rfl) (Nat.le_of_ble_eq_true rfl) (by omega) (h0 2 (by decide)) rfl rfl (k_X5_nearestBeside (d := d + 0) h0 h) ?_
    rintro _ zM8 zN9 ⟨zr7, rfl, h⟩
    refine j_goto (tgt := 42) dX10_goalOf_38 (by decide) ?_
    exact j_iret dX10_goalOf_42 rfl ⟨_, rfl, h⟩
def w_X10_leaveWork_p34 (b : Nat) (post : am_I → am_N → Prop) (l1 : Int32) (l2 : Int32) (M : am_I) (N : am_N) : Prop :=
  vp_in l1 8 ∧ vp_in l1 8 ∧ post (am_u (am_u M (1, b, 18) l1.toNatClampNeg (-1)) (1, b, 17) l1.toNatClampNeg l2) N
set_option maxRecDepth 10000 in
theorem k_X10_leaveWork_p34 {d : Nat} {dm : List am_C} {b : Nat} (h1b : am_d1 dm b) {post : am_I → am_N → Prop} (l1 : Int32) (l2 : Int32) (M : am_I) (N : am_N) (h : w_X10_leaveWork_p34 b post l1 l2 M N) : jg (d + 2) mX10_leaveWork dm 34 [(0, .inr (.inr (1, b, 0))), (1, .inl l1), (2, .inl l2)] [] M N (am_pv post) := by
  refine j_aload_n 0 dX10_leaveWork_34 rfl ?_
  refine j_getR (b := (1, b, 14)) dX10_leaveWork_35 fsRX10_48 (h1b 0 (by decide)) rfl rfl ?_
  refine j_getR (b := (1, b, 18)) dX10_leaveWork_38 fsRX10_216 (h1b 14 (by decide)) rfl rfl ?_
  refine j_iload_n 1 dX10_leaveWork_41 rfl ?_
  refine j_iconst (v := (-1)) dX10_leaveWork_42 (by decide) ?_
  obtain ⟨hq, h⟩ := h
  refine j_iast dX10_leaveWork_43 (h1b 18 (by decide)) rfl hq ?_
  refine j_aload_n 0 dX10_leaveWork_44 rfl ?_
  refine j_getR (b := (1, b, 14)) dX10_leaveWork_45 fsRX10_48 (h1b 0 (by decide)) rfl rfl ?_
  refine j_getR (b := (1, b, 17)) dX10_leaveWork_48 fsRX10_219 (h1b 14 (by decide)) rfl rfl ?_
  refine j_iload_n 1 dX10_leaveWork_51 rfl ?_
  refine j_iload_n 2 dX10_leaveWork_52 rfl ?_
  obtain ⟨hq, h⟩ := h
  refine j_iast dX10_leaveWork_53 (h1b 17 (by decide)) rfl hq ?_
  exact j_vret dX10_leaveWork_54 rfl ⟨rfl, h⟩
def w_X10_leaveWork (b : Nat) (a1 : Int32) (a2 : Int32) (M : am_I) (N : am_N) (post : am_I → am_N → Prop) : Prop :=
  vp_in a1 8 ∧ ∀ zv1 : Int32, zv1 = M (1, b, 18) a1.toNatClampNeg → w_X11_within zv1 0 59 M N (fun zr2 zM3 zN4 => ((zr2 = 0 → w_X10_leaveWork_p34 b post a1 a2 zM3 zN4) ∧ (¬ zr2 = 0 → vp_in zv1 60 ∧ vp_in zv1 60 ∧ w_X10_leaveWork_p34 b post a1 a2 (am_u (am_u zM3 (1, b, 20) zv1.toNatClampNeg 0) (1, b, 21) zv1.toNatClampNeg (-1)) zN4)))
set_option maxRecDepth 10000 in
theorem k_X10_leaveWork {d : Nat} {dm : List am_C} {b : Nat} (h1b : am_d1 dm b) {a1 : Int32} {a2 : Int32} {M : am_I} {N : am_N} {post : am_I → am_N → Prop} (h : w_X10_leaveWork b a1 a2 M N post) : jg (d + 2) mX10_leaveWork dm 0 [(0, .inr (.inr (1, b, 0))), (1, .inl a1), (2, .inl a2)] [] M N (am_pv post) := by
  refine j_aload_n 0 dX10_leaveWork_0 rfl ?_
  refine j_getR (b := (1, b, 14)) dX10_leaveWork_1 fsRX10_48 (h1b 0 (by decide)) rfl rfl ?_
  refine j_getR (b := (1, b, 18)) dX10_leaveWork_4 fsRX10_216 (h1b 14 (by decide)) rfl rfl ?_
  refine j_iload_n 1 dX10_leaveWork_7 rfl ?_
  obtain ⟨hq, h⟩ := h
  refine j_iald dX10_leaveWork_8 (h1b 18 (by decide)) rfl hq ?_
  refine j_topi (fun zv1 hzv1 => ?_)
  replace h := h zv1 hzv1
  refine j_istore_n dX10_leaveWork_9 (by decide) rfl ?_
  refine j_iload_n 0 dX10_leaveWork_10 rfl ?_
  refine j_iconst (v := 0) dX10_leaveWork_11 (by decide) ?_
  refine j_bipush (v := 59) dX10_leaveWork_12 (by decide) ?_
  refine j_invS (As := [.inl zv1, .inl 0, .inl 59]) dX10_leaveWork_14 msRX10_139 mbX11_within rfl rfl (Nat.le_of_ble_eq_true rfl) (Nat.le_of_ble_eq_true rfl) (by omega) (k_X11_within (d := d + 0)  h) ?_
  rintro _ zM3 zN4 ⟨zr2, rfl, h⟩
  refine j_if_eq (tgt := 34) dX10_leaveWork_17 (by decide) (fun hc => ?_) (fun hc => ?_)
  · replace h := h.1 hc
    refine j_sub [1, 2, 3] rfl ?_
    exact k_X10_leaveWork_p34 h1b _ _ _ _ h
  · replace h := h.2 hc
    refine j_aload_n 1 dX10_leaveWork_20 rfl ?_
    refine j_getR (b := (1, b, 20)) dX10_leaveWork_21 fsRX10_9 (h1b 0 (by decide)) rfl rfl ?_
    refine j_iload_n 0 dX10_leaveWork_24 rfl ?_
    refine j_iconst (v := 0) dX10_leaveWork_25 (by decide) ?_
    obtain ⟨hq, h⟩ := h
    refine j_iast dX10_leaveWork_26 (h1b 20 (by decide)) rfl hq ?_
    refine j_aload_n 1 dX10_leaveWork_27 rfl ?_
    refine j_getR (b := (1, b, 21)) dX10_leaveWork_28 fsRX10_15 (h1b 0 (by decide)) rfl rfl ?_
    refine j_iload_n 0 dX10_leaveWork_31 rfl ?_
    refine j_iconst (v := (-1)) dX10_leaveWork_32 (by decide) ?_
    obtain ⟨hq, h⟩ := h
    refine j_iast dX10_leaveWork_33 (h1b 21 (by decide)) rfl hq ?_
    refine j_sub [1, 2, 3] rfl ?_
    exact k_X10_leaveWork_p34 h1b _ _ _ _ h
def w_X10_factOfCell (b : Nat) (a1 : Int32) (a2 : Int32) (M : am_I) (N : am_N) (post : Int32 → am_I → am_N → Prop) : Prop :=
  w_X11_isCell a1 M N (fun zr1 zM2 zN3 => ((¬ zr1 = 0 → w_X6_standsOn b a1 zM2 zN3 (fun zr4 zM5 zN6 => ((a2 = 0 → vp_in a1 64 ∧ post (zM5 (1, b, 2) a1.toNatClampNeg) zM5 zN6) ∧ (a2 = 1 → vp_in a1 64 ∧ post (zM5 (1, b, 3) a1.toNatClampNeg) zM5 zN6) ∧ (a2 = 2 → vp_in a1 64 ∧ post (zM5 (1, b, 4) a1.toNatClampNeg) zM5 zN6) ∧ (a2 = 3 → ((zr4 = 0 → post 0 zM5 zN6) ∧ (¬ zr4 = 0 → post 1 zM5 zN6))) ∧ (a2 = 4 → ((zr4 = 0 → post 0 zM5 zN6) ∧ (¬ zr4 = 0 → vp_in a1 64 ∧ post (zM5 (1, b, 7) a1.toNatClampNeg) zM5 zN6))) ∧ (a2 = 5 → w_X6_isIll b a1 zM5 zN6 (fun zr7 zM8 zN9 => ((zr7 = 0 → post 0 zM8 zN9) ∧ (¬ zr7 = 0 → post 1 zM8 zN9)))) ∧ (a2 = 6 → ((zr4 = 0 → post 0 zM5 zN6) ∧ (¬ zr4 = 0 → vp_in a1 64 ∧ post (zM5 (1, b, 8) a1.toNatClampNeg) zM5 zN6))) ∧ (a2 = 7 → ((zr4 = 0 → post 0 zM5 zN6) ∧ (¬ zr4 = 0 → vp_in a1 64 ∧ post (zM5 (1, b, 9) a1.toNatClampNeg) zM5 zN6))) ∧ (a2 = 8 → w_X6_marksOn b a1 zM5 zN6 (fun zr10 zM11 zN12 => post zr10 zM11 zN12)) ∧ (a2 = 9 → ((zr4 = 0 → post 0 zM5 zN6) ∧ (¬ zr4 = 0 → w_X6_weedHundredths b a1 zM5 zN6 (fun zr13 zM14 zN15 => post zr13 zM14 zN15)))) ∧ (a2 = 10 → vp_in a1 64 ∧ post (zM5 (1, b, 11) a1.toNatClampNeg) zM5 zN6) ∧ (¬ a2 = 0 → ¬ a2 = 1 → ¬ a2 = 2 → ¬ a2 = 3 → ¬ a2 = 4 → ¬ a2 = 5 → ¬ a2 = 6 → ¬ a2 = 7 → ¬ a2 = 8 → ¬ a2 = 9 → ¬ a2 = 10 → post (-1) zM5 zN6)))) ∧ (zr1 = 0 → post (-1) zM2 zN3)))
set_option maxRecDepth 10000 in
theorem k_X10_factOfCell {d : Nat} {dm : List am_C} {b : Nat} (h0 : am_d0 dm) (h1b : am_d1 dm b) (h2 : am_d2 dm) {a1 : Int32} {a2 : Int32} {M : am_I} {N : am_N} {post : Int32 → am_I → am_N → Prop} (h : w_X10_factOfCell b a1 a2 M N post) : jg (d + 4) mX10_factOfCell dm 0 [(0, .inr (.inr (1, b, 0))), (1, .inl a1), (2, .inl a2)] [] M N (am_pi post) := by
  refine j_iload_n 1 dX10_factOfCell_0 rfl ?_
  refine j_invS (As := [.inl a1]) dX10_factOfCell_1 msRX10_262 mbX11_isCell rfl rfl (Nat.le_of_ble_eq_true rfl) (Nat.le_of_ble_eq_true rfl) (by omega) (k_X11_isCell (d := d + 2)  h) ?_
  rintro _ zM2 zN3 ⟨zr1, rfl, h⟩
  refine j_if_ne (tgt := 9) dX10_factOfCell_4 (by decide) (fun hc => ?_) (fun hc => ?_)
  · replace h := h.1 hc
    refine j_aload_n 0 dX10_factOfCell_9 rfl ?_
    refine j_getR (b := (1, b, 6)) dX10_factOfCell_10 fsRX10_41 (h1b 0 (by decide)) rfl rfl ?_
    refine j_iload_n 1 dX10_factOfCell_13 rfl ?_
    refine j_invV (As := [.inl a1]) dX10_factOfCell_14 msRX10_283 mbX6_standsOn rfl rfl (Nat.le_of_ble_eq_true rfl) (Nat.le_of_ble_eq_true rfl) (by omega) (h1b 6 (by decide)) rfl rfl (k_X6_standsOn (d := d + 1) h1b h) ?_
    rintro _ zM5 zN6 ⟨zr4, rfl, h⟩
    refine j_istore_n dX10_factOfCell_17 (by decide) rfl ?_
    refine j_iload_n 3 dX10_factOfCell_18 rfl ?_
    by_cases hs0 : a2 = 0
    · replace h := h.1 hs0
      refine j_tabK (k := 0) (tgt := 76) (off := 57) dX10_factOfCell_19 hs0 (by decide) (by decide) (by decide) (by decide) ?_
      refine j_aload_n 1 dX10_factOfCell_76 rfl ?_
      refine j_getR (b := (1, b, 1)) dX10_factOfCell_77 fsRX10_32 (h1b 0 (by decide)) rfl rfl ?_
      refine j_getR (b := (1, b, 2)) dX10_factOfCell_80 fsRX10_286 (h1b 1 (by decide)) rfl rfl ?_
      refine j_iload_n 2 dX10_factOfCell_83 rfl ?_
      obtain ⟨hq, h⟩ := h
      refine j_iald dX10_factOfCell_84 (h1b 2 (by decide)) rfl hq ?_
      exact j_iret dX10_factOfCell_85 rfl ⟨_, rfl, h⟩
    by_cases hs1 : a2 = 1
    · replace h := h.2.1 hs1
      refine j_tabK (k := 1) (tgt := 86) (off := 67) dX10_factOfCell_19 hs1 (by decide) (by decide) (by decide) (by decide) ?_
      refine j_aload_n 1 dX10_factOfCell_86 rfl ?_
      refine j_getR (b := (1, b, 1)) dX10_factOfCell_87 fsRX10_32 (h1b 0 (by decide)) rfl rfl ?_
      refine j_getR (b := (1, b, 3)) dX10_factOfCell_90 fsRX10_277 (h1b 1 (by decide)) rfl rfl ?_
      refine j_iload_n 2 dX10_factOfCell_93 rfl ?_
      obtain ⟨hq, h⟩ := h
      refine j_iald dX10_factOfCell_94 (h1b 3 (by decide)) rfl hq ?_
      exact j_iret dX10_factOfCell_95 rfl ⟨_, rfl, h⟩
    by_cases hs2 : a2 = 2
    · replace h := h.2.2.1 hs2
      refine j_tabK (k := 2) (tgt := 96) (off := 77) dX10_factOfCell_19 hs2 (by decide) (by decide) (by decide) (by decide) ?_
      refine j_aload_n 1 dX10_factOfCell_96 rfl ?_
      refine j_getR (b := (1, b, 1)) dX10_factOfCell_97 fsRX10_32 (h1b 0 (by decide)) rfl rfl ?_
      refine j_getR (b := (1, b, 4)) dX10_factOfCell_100 fsRX10_271 (h1b 1 (by decide)) rfl rfl ?_
      refine j_iload_n 2 dX10_factOfCell_103 rfl ?_
      obtain ⟨hq, h⟩ := h
      refine j_iald dX10_factOfCell_104 (h1b 4 (by decide)) rfl hq ?_
      exact j_iret dX10_factOfCell_105 rfl ⟨_, rfl, h⟩
    by_cases hs3 : a2 = 3
    · replace h := h.2.2.2.1 hs3
      refine j_tabK (k := 3) (tgt := 106) (off := 87) dX10_factOfCell_19 hs3 (by decide) (by decide) (by decide) (by decide) ?_
      refine j_iload_n 0 dX10_factOfCell_106 rfl ?_
      refine j_if_eq (tgt := 114) dX10_factOfCell_107 (by decide) (fun hc => ?_) (fun hc => ?_)
      · replace h := h.1 hc
        refine j_iconst (v := 0) dX10_factOfCell_114 (by decide) ?_
        exact j_iret dX10_factOfCell_115 rfl ⟨_, rfl, h⟩
      · replace h := h.2 hc
        refine j_iconst (v := 1) dX10_factOfCell_110 (by decide) ?_
        refine j_goto (tgt := 115) dX10_factOfCell_111 (by decide) ?_
        exact j_iret dX10_factOfCell_115 rfl ⟨_, rfl, h⟩
    by_cases hs4 : a2 = 4
    · replace h := h.2.2.2.2.1 hs4
      refine j_tabK (k := 4) (tgt := 116) (off := 97) dX10_factOfCell_19 hs4 (by decide) (by decide) (by decide) (by decide) ?_
      refine j_iload_n 0 dX10_factOfCell_116 rfl ?_
      refine j_if_eq (tgt := 132) dX10_factOfCell_117 (by decide) (fun hc => ?_) (fun hc => ?_)
      · replace h := h.1 hc
        refine j_iconst (v := 0) dX10_factOfCell_132 (by decide) ?_
        exact j_iret dX10_factOfCell_133 rfl ⟨_, rfl, h⟩
      · replace h := h.2 hc
        refine j_aload_n 1 dX10_factOfCell_120 rfl ?_
        refine j_getR (b := (1, b, 6)) dX10_factOfCell_121 fsRX10_41 (h1b 0 (by decide)) rfl rfl ?_
        refine j_getR (b := (1, b, 7)) dX10_factOfCell_124 fsRX10_289 (h1b 6 (by decide)) rfl rfl ?_
        refine j_iload_n 2 dX10_factOfCell_127 rfl ?_
        obtain ⟨hq, h⟩ := h
        refine j_iald dX10_factOfCell_128 (h1b 7 (by decide)) rfl hq ?_
        refine j_goto (tgt := 133) dX10_factOfCell_129 (by decide) ?_
        exact j_iret dX10_factOfCell_133 rfl ⟨_, rfl, h⟩
    by_cases hs5 : a2 = 5
    · replace h := h.2.2.2.2.2.1 hs5
      refine j_tabK (k := 5) (tgt := 134) (off := 115) dX10_factOfCell_19 hs5 (by decide) (by decide) (by decide) (by decide) ?_
      refine j_aload_n 1 dX10_factOfCell_134 rfl ?_
      refine j_getR (b := (1, b, 6)) dX10_factOfCell_135 fsRX10_41 (h1b 0 (by decide)) rfl rfl ?_
      refine j_iload_n 2 dX10_factOfCell_138 rfl ?_
      refine j_invV (As := [.inl a1]) dX10_factOfCell_139 msRX10_291 mbX6_isIll rfl rfl (Nat.le_of_ble_eq_true rfl) (Nat.le_of_ble_eq_true rfl) (by omega) (h1b 6 (by decide)) rfl rfl (k_X6_isIll (d := d + 1) h1b h) ?_
      rintro _ zM8 zN9 ⟨zr7, rfl, h⟩
      refine j_if_eq (tgt := 149) dX10_factOfCell_142 (by decide) (fun hc => ?_) (fun hc => ?_)
      · replace h := h.1 hc
        refine j_iconst (v := 0) dX10_factOfCell_149 (by decide) ?_
        exact j_iret dX10_factOfCell_150 rfl ⟨_, rfl, h⟩
      · replace h := h.2 hc
        refine j_iconst (v := 1) dX10_factOfCell_145 (by decide) ?_
        refine j_goto (tgt := 150) dX10_factOfCell_146 (by decide) ?_
        exact j_iret dX10_factOfCell_150 rfl ⟨_, rfl, h⟩
    by_cases hs6 : a2 = 6
    · replace h := h.2.2.2.2.2.2.1 hs6
      refine j_tabK (k := 6) (tgt := 151) (off := 132) dX10_factOfCell_19 hs6 (by decide) (by decide) (by decide) (by decide) ?_
      refine j_iload_n 0 dX10_factOfCell_151 rfl ?_
      refine j_if_eq (tgt := 167) dX10_factOfCell_152 (by decide) (fun hc => ?_) (fun hc => ?_)
      · replace h := h.1 hc
        refine j_iconst (v := 0) dX10_factOfCell_167 (by decide) ?_
        exact j_iret dX10_factOfCell_168 rfl ⟨_, rfl, h⟩
      · replace h := h.2 hc
        refine j_aload_n 1 dX10_factOfCell_155 rfl ?_
        refine j_getR (b := (1, b, 6)) dX10_factOfCell_156 fsRX10_41 (h1b 0 (by decide)) rfl rfl ?_
        refine j_getR (b := (1, b, 8)) dX10_factOfCell_159 fsRX10_294 (h1b 6 (by decide)) rfl rfl ?_
        refine j_iload_n 2 dX10_factOfCell_162 rfl ?_
        obtain ⟨hq, h⟩ := h
        refine j_iald dX10_factOfCell_163 (h1b 8 (by decide)) rfl hq ?_
        refine j_goto (tgt := 168) dX10_factOfCell_164 (by decide) ?_
        exact j_iret dX10_factOfCell_168 rfl ⟨_, rfl, h⟩
    by_cases hs7 : a2 = 7
    · replace h := h.2.2.2.2.2.2.2.1 hs7
      refine j_tabK (k := 7) (tgt := 169) (off := 150) dX10_factOfCell_19 hs7 (by decide) (by decide) (by decide) (by decide) ?_
      refine j_iload_n 0 dX10_factOfCell_169 rfl ?_
      refine j_if_eq (tgt := 185) dX10_factOfCell_170 (by decide) (fun hc => ?_) (fun hc => ?_)
      · replace h := h.1 hc
        refine j_iconst (v := 0) dX10_factOfCell_185 (by decide) ?_
        exact j_iret dX10_factOfCell_186 rfl ⟨_, rfl, h⟩
      · replace h := h.2 hc
        refine j_aload_n 1 dX10_factOfCell_173 rfl ?_
        refine j_getR (b := (1, b, 6)) dX10_factOfCell_174 fsRX10_41 (h1b 0 (by decide)) rfl rfl ?_
        refine j_getR (b := (1, b, 9)) dX10_factOfCell_177 fsRX10_297 (h1b 6 (by decide)) rfl rfl ?_
        refine j_iload_n 2 dX10_factOfCell_180 rfl ?_
        obtain ⟨hq, h⟩ := h
        refine j_iald dX10_factOfCell_181 (h1b 9 (by decide)) rfl hq ?_
        refine j_goto (tgt := 186) dX10_factOfCell_182 (by decide) ?_
        exact j_iret dX10_factOfCell_186 rfl ⟨_, rfl, h⟩
    by_cases hs8 : a2 = 8
    · replace h := h.2.2.2.2.2.2.2.2.1 hs8
      refine j_tabK (k := 8) (tgt := 187) (off := 168) dX10_factOfCell_19 hs8 (by decide) (by decide) (by decide) (by decide) ?_
      refine j_aload_n 1 dX10_factOfCell_187 rfl ?_
      refine j_getR (b := (1, b, 6)) dX10_factOfCell_188 fsRX10_41 (h1b 0 (by decide)) rfl rfl ?_
      refine j_iload_n 2 dX10_factOfCell_191 rfl ?_
      refine j_invV (As := [.inl a1]) dX10_factOfCell_192 msRX10_247 mbX6_marksOn rfl rfl (Nat.le_of_ble_eq_true rfl) (Nat.le_of_ble_eq_true rfl) (by omega) (h1b 6 (by decide)) rfl rfl (k_X6_marksOn (d := d + 1) h1b h) ?_
      rintro _ zM11 zN12 ⟨zr10, rfl, h⟩
      exact j_iret dX10_factOfCell_195 rfl ⟨_, rfl, h⟩
    by_cases hs9 : a2 = 9
    · replace h := h.2.2.2.2.2.2.2.2.2.1 hs9
      refine j_tabK (k := 9) (tgt := 196) (off := 177) dX10_factOfCell_19 hs9 (by decide) (by decide) (by decide) (by decide) ?_
      refine j_iload_n 0 dX10_factOfCell_196 rfl ?_
      refine j_if_eq (tgt := 211) dX10_factOfCell_197 (by decide) (fun hc => ?_) (fun hc => ?_)
      · replace h := h.1 hc
        refine j_iconst (v := 0) dX10_factOfCell_211 (by decide) ?_
        exact j_iret dX10_factOfCell_212 rfl ⟨_, rfl, h⟩
      · replace h := h.2 hc
        refine j_aload_n 1 dX10_factOfCell_200 rfl ?_
        refine j_getR (b := (1, b, 6)) dX10_factOfCell_201 fsRX10_41 (h1b 0 (by decide)) rfl rfl ?_
        refine j_iload_n 2 dX10_factOfCell_204 rfl ?_
        refine j_invV (As := [.inl a1]) dX10_factOfCell_205 msRX10_300 mbX6_weedHundredths rfl rfl (Nat.le_of_ble_eq_true rfl) (Nat.le_of_ble_eq_true rfl) (by omega) (h1b 6 (by decide)) rfl rfl (k_X6_weedHundredths (d := d + 0) h0 h1b h2 h) ?_
        rintro _ zM14 zN15 ⟨zr13, rfl, h⟩
        refine j_goto (tgt := 212) dX10_factOfCell_208 (by decide) ?_
        exact j_iret dX10_factOfCell_212 rfl ⟨_, rfl, h⟩
    by_cases hs10 : a2 = 10
    · replace h := h.2.2.2.2.2.2.2.2.2.2.1 hs10
      refine j_tabK (k := 10) (tgt := 213) (off := 194) dX10_factOfCell_19 hs10 (by decide) (by decide) (by decide) (by decide) ?_
      refine j_aload_n 1 dX10_factOfCell_213 rfl ?_
      refine j_getR (b := (1, b, 6)) dX10_factOfCell_214 fsRX10_41 (h1b 0 (by decide)) rfl rfl ?_
      refine j_getR (b := (1, b, 11)) dX10_factOfCell_217 fsRX10_303 (h1b 6 (by decide)) rfl rfl ?_
      refine j_iload_n 2 dX10_factOfCell_220 rfl ?_
      obtain ⟨hq, h⟩ := h
      refine j_iald dX10_factOfCell_221 (h1b 11 (by decide)) rfl hq ?_
      exact j_iret dX10_factOfCell_222 rfl ⟨_, rfl, h⟩
    replace h := h.2.2.2.2.2.2.2.2.2.2.2 hs0 hs1 hs2 hs3 hs4 hs5 hs6 hs7 hs8 hs9 hs10
    refine j_tableOut (tgt := 223) dX10_factOfCell_19 (am_sw0 (n := 10) (fun k hk => match k, hk with | 0, _ => hs0 | 1, _ => hs1 | 2, _ => hs2 | 3, _ => hs3 | 4, _ => hs4 | 5, _ => hs5 | 6, _ => hs6 | 7, _ => hs7 | 8, _ => hs8 | 9, _ => hs9 | 10, _ => hs10 | k + 11, hk => absurd hk (by omega))) (by decide) ?_
    refine j_iconst (v := (-1)) dX10_factOfCell_223 (by decide) ?_
    exact j_iret dX10_factOfCell_224 rfl ⟨_, rfl, h⟩
  · replace h := h.2 hc
    refine j_iconst (v := (-1)) dX10_factOfCell_7 (by decide) ?_
    exact j_iret dX10_factOfCell_8 rfl ⟨_, rfl, h⟩
def w_X10_gatherFacts_p92 (b : Nat) (post : am_I → am_N → Prop) (l1 : Int32) (s0 : Int32) (s1 : Int32) (M : am_I) (N : am_N) : Prop :=
  vp_in s1 8 ∧ w_X0_hoursToRain ((am_u M (0, 0, 16) s1.toNatClampNeg s0) (1, b, 0) 8) (am_u M (0, 0, 16) s1.toNatClampNeg s0) N (fun zr1 zM2 zN3 => vp_in l1 64 ∧ post (am_u (am_u zM2 (0, 0, 16) 6 zr1) (0, 0, 16) 7 ((am_u zM2 (0, 0, 16) 6 zr1) (1, b, 9) l1.toNatClampNeg)) zN3)
set_option maxRecDepth 10000 in
theorem k_X10_gatherFacts_p92 {d : Nat} {dm : List am_C} {b : Nat} (h0 : am_d0 dm) (h1b : am_d1 dm b) (h2 : am_d2 dm) {post : am_I → am_N → Prop} (l1 : Int32) (s0 : Int32) (s1 : Int32) (M : am_I) (N : am_N) (h : w_X10_gatherFacts_p92 b post l1 s0 s1 M N) : jg (d + 4) mX10_gatherFacts dm 92 [(0, .inr (.inr (1, b, 0))), (1, .inl l1), (2, .inr (.inr (0, 0, 16)))] [.inl s0, .inl s1, .inr (.inr (0, 0, 16))] M N (am_pv post) := by
  obtain ⟨hq, h⟩ := h
  refine j_iast dX10_gatherFacts_92 (h0 16 (by decide)) rfl hq ?_
  refine j_aload_n 2 dX10_gatherFacts_93 rfl ?_
  refine j_bipush (v := 6) dX10_gatherFacts_94 (by decide) ?_
  refine j_aload_n 0 dX10_gatherFacts_96 rfl ?_
  refine j_getR (b := (0, 0, 1)) dX10_gatherFacts_97 fsRX10_21 (h1b 0 (by decide)) rfl rfl ?_
  refine j_aload_n 0 dX10_gatherFacts_100 rfl ?_
  refine j_getI dX10_gatherFacts_101 fsRX10_66 (h1b 0 (by decide)) rfl ?_
  refine j_invV (As := [.inl ((am_u M (0, 0, 16) s1.toNatClampNeg s0) (1, b, 0) 8)]) dX10_gatherFacts_104 msRX10_308 mbX0_hoursToRain rfl rfl (Nat.le_of_ble_eq_true rfl) (Nat.le_of_ble_eq_true rfl) (by omega) (h0 1 (by decide)) rfl rfl (k_X0_hoursToRain (d := d + 1) h0 h2 h) ?_
  rintro _ zM2 zN3 ⟨zr1, rfl, h⟩
  refine j_iast dX10_gatherFacts_107 (h0 16 (by decide)) rfl (by unfold vp_in; decide) ?_
  refine j_aload_n 2 dX10_gatherFacts_108 rfl ?_
  refine j_bipush (v := 7) dX10_gatherFacts_109 (by decide) ?_
  refine j_aload_n 0 dX10_gatherFacts_111 rfl ?_
  refine j_getR (b := (1, b, 6)) dX10_gatherFacts_112 fsRX10_41 (h1b 0 (by decide)) rfl rfl ?_
  refine j_getR (b := (1, b, 9)) dX10_gatherFacts_115 fsRX10_297 (h1b 6 (by decide)) rfl rfl ?_
  refine j_iload_n 1 dX10_gatherFacts_118 rfl ?_
  obtain ⟨hq, h⟩ := h
  refine j_iald dX10_gatherFacts_119 (h1b 9 (by decide)) rfl hq ?_
  refine j_iast dX10_gatherFacts_120 (h0 16 (by decide)) rfl (by unfold vp_in; decide) ?_
  exact j_vret dX10_gatherFacts_121 rfl ⟨rfl, h⟩
def w_X10_gatherFacts (b : Nat) (a1 : Int32) (M : am_I) (N : am_N) (post : am_I → am_N → Prop) : Prop :=
  w_X11_isCell a1 M N (fun zr1 zM2 zN3 => ((zr1 = 0 → post zM2 zN3) ∧ (¬ zr1 = 0 → ((8 ≤ (8 : Int32) → w_X6_weedHundredths b a1 zM2 zN3 (fun zr4 zM5 zN6 => vp_in a1 64 ∧ vp_in a1 64 ∧ vp_in a1 64 ∧ vp_in a1 64 ∧ w_X6_isIll b a1 (am_u (am_u (am_u (am_u (am_u zM5 (0, 0, 16) 0 zr4) (0, 0, 16) 1 ((am_u zM5 (0, 0, 16) 0 zr4) (1, b, 3) a1.toNatClampNeg)) (0, 0, 16) 2 ((am_u (am_u zM5 (0, 0, 16) 0 zr4) (0, 0, 16) 1 ((am_u zM5 (0, 0, 16) 0 zr4) (1, b, 3) a1.toNatClampNeg)) (1, b, 4) a1.toNatClampNeg)) (0, 0, 16) 3 ((am_u (am_u (am_u zM5 (0, 0, 16) 0 zr4) (0, 0, 16) 1 ((am_u zM5 (0, 0, 16) 0 zr4) (1, b, 3) a1.toNatClampNeg)) (0, 0, 16) 2 ((am_u (am_u zM5 (0, 0, 16) 0 zr4) (0, 0, 16) 1 ((am_u zM5 (0, 0, 16) 0 zr4) (1, b, 3) a1.toNatClampNeg)) (1, b, 4) a1.toNatClampNeg)) (1, b, 8) a1.toNatClampNeg)) (0, 0, 16) 4 ((am_u (am_u (am_u (am_u zM5 (0, 0, 16) 0 zr4) (0, 0, 16) 1 ((am_u zM5 (0, 0, 16) 0 zr4) (1, b, 3) a1.toNatClampNeg)) (0, 0, 16) 2 ((am_u (am_u zM5 (0, 0, 16) 0 zr4) (0, 0, 16) 1 ((am_u zM5 (0, 0, 16) 0 zr4) (1, b, 3) a1.toNatClampNeg)) (1, b, 4) a1.toNatClampNeg)) (0, 0, 16) 3 ((am_u (am_u (am_u zM5 (0, 0, 16) 0 zr4) (0, 0, 16) 1 ((am_u zM5 (0, 0, 16) 0 zr4) (1, b, 3) a1.toNatClampNeg)) (0, 0, 16) 2 ((am_u (am_u zM5 (0, 0, 16) 0 zr4) (0, 0, 16) 1 ((am_u zM5 (0, 0, 16) 0 zr4) (1, b, 3) a1.toNatClampNeg)) (1, b, 4) a1.toNatClampNeg)) (1, b, 8) a1.toNatClampNeg)) (1, b, 7) a1.toNatClampNeg)) zN6 (fun zr7 zM8 zN9 => ((zr7 = 0 → w_X10_gatherFacts_p92 b post a1 0 5 zM8 zN9) ∧ (¬ zr7 = 0 → w_X10_gatherFacts_p92 b post a1 1 5 zM8 zN9))))) ∧ (¬ 8 ≤ (8 : Int32) → post zM2 zN3)))))
set_option maxRecDepth 10000 in
theorem k_X10_gatherFacts {d : Nat} {dm : List am_C} {b : Nat} (h0 : am_d0 dm) (h1b : am_d1 dm b) (h2 : am_d2 dm) {a1 : Int32} {M : am_I} {N : am_N} {post : am_I → am_N → Prop} (h : w_X10_gatherFacts b a1 M N post) : jg (d + 4) mX10_gatherFacts dm 0 [(0, .inr (.inr (1, b, 0))), (1, .inl a1), (2, .inr (.inr (0, 0, 16)))] [] M N (am_pv post) := by
  refine j_iload_n 1 dX10_gatherFacts_0 rfl ?_
  refine j_invS (As := [.inl a1]) dX10_gatherFacts_1 msRX10_262 mbX11_isCell rfl rfl (Nat.le_of_ble_eq_true rfl) (Nat.le_of_ble_eq_true rfl) (by omega) (k_X11_isCell (d := d + 2)  h) ?_
  rintro _ zM2 zN3 ⟨zr1, rfl, h⟩
  refine j_if_eq (tgt := 14) dX10_gatherFacts_4 (by decide) (fun hc => ?_) (fun hc => ?_)
  · replace h := h.1 hc
    exact j_vret dX10_gatherFacts_14 rfl ⟨rfl, h⟩
  · replace h := h.2 hc
    refine j_aload_n 2 dX10_gatherFacts_7 rfl ?_
    refine j_aleni (v := 8) dX10_gatherFacts_8 (h0 16 (by decide)) rfl (by decide) ?_
    refine j_bipush (v := 8) dX10_gatherFacts_9 (by decide) ?_
    refine j_icmp_ge (tgt := 15) dX10_gatherFacts_11 (by decide) (fun hc => ?_) (fun hc => ?_)
    · replace h := h.1 hc
      refine j_aload_n 2 dX10_gatherFacts_15 rfl ?_
      refine j_iconst (v := 0) dX10_gatherFacts_16 (by decide) ?_
      refine j_aload_n 0 dX10_gatherFacts_17 rfl ?_
      refine j_getR (b := (1, b, 6)) dX10_gatherFacts_18 fsRX10_41 (h1b 0 (by decide)) rfl rfl ?_
      refine j_iload_n 1 dX10_gatherFacts_21 rfl ?_
      refine j_invV (As := [.inl a1]) dX10_gatherFacts_22 msRX10_300 mbX6_weedHundredths rfl rfl (Nat.le_of_ble_eq_true rfl) (Nat.le_of_ble_eq_true rfl) (by omega) (h1b 6 (by decide)) rfl rfl (k_X6_weedHundredths (d := d + 0) h0 h1b h2 h) ?_
      rintro _ zM5 zN6 ⟨zr4, rfl, h⟩
      refine j_iast dX10_gatherFacts_25 (h0 16 (by decide)) rfl (by unfold vp_in; decide) ?_
      refine j_aload_n 2 dX10_gatherFacts_26 rfl ?_
      refine j_iconst (v := 1) dX10_gatherFacts_27 (by decide) ?_
      refine j_aload_n 0 dX10_gatherFacts_28 rfl ?_
      refine j_getR (b := (1, b, 1)) dX10_gatherFacts_29 fsRX10_32 (h1b 0 (by decide)) rfl rfl ?_
      refine j_getR (b := (1, b, 3)) dX10_gatherFacts_32 fsRX10_277 (h1b 1 (by decide)) rfl rfl ?_
      refine j_iload_n 1 dX10_gatherFacts_35 rfl ?_
      obtain ⟨hq, h⟩ := h
      refine j_iald dX10_gatherFacts_36 (h1b 3 (by decide)) rfl hq ?_
      refine j_iast dX10_gatherFacts_37 (h0 16 (by decide)) rfl (by unfold vp_in; decide) ?_
      refine j_aload_n 2 dX10_gatherFacts_38 rfl ?_
      refine j_iconst (v := 2) dX10_gatherFacts_39 (by decide) ?_
      refine j_aload_n 0 dX10_gatherFacts_40 rfl ?_
      refine j_getR (b := (1, b, 1)) dX10_gatherFacts_41 fsRX10_32 (h1b 0 (by decide)) rfl rfl ?_
      refine j_getR (b := (1, b, 4)) dX10_gatherFacts_44 fsRX10_271 (h1b 1 (by decide)) rfl rfl ?_
      refine j_iload_n 1 dX10_gatherFacts_47 rfl ?_
      obtain ⟨hq, h⟩ := h
      refine j_iald dX10_gatherFacts_48 (h1b 4 (by decide)) rfl hq ?_
      refine j_iast dX10_gatherFacts_49 (h0 16 (by decide)) rfl (by unfold vp_in; decide) ?_
      refine j_aload_n 2 dX10_gatherFacts_50 rfl ?_
      refine j_iconst (v := 3) dX10_gatherFacts_51 (by decide) ?_
      refine j_aload_n 0 dX10_gatherFacts_52 rfl ?_
      refine j_getR (b := (1, b, 6)) dX10_gatherFacts_53 fsRX10_41 (h1b 0 (by decide)) rfl rfl ?_
      refine j_getR (b := (1, b, 8)) dX10_gatherFacts_56 fsRX10_294 (h1b 6 (by decide)) rfl rfl ?_
      refine j_iload_n 1 dX10_gatherFacts_59 rfl ?_
      obtain ⟨hq, h⟩ := h
      refine j_iald dX10_gatherFacts_60 (h1b 8 (by decide)) rfl hq ?_
      refine j_iast dX10_gatherFacts_61 (h0 16 (by decide)) rfl (by unfold vp_in; decide) ?_
      refine j_aload_n 2 dX10_gatherFacts_62 rfl ?_
      refine j_iconst (v := 4) dX10_gatherFacts_63 (by decide) ?_
      refine j_aload_n 0 dX10_gatherFacts_64 rfl ?_
      refine j_getR (b := (1, b, 6)) dX10_gatherFacts_65 fsRX10_41 (h1b 0 (by decide)) rfl rfl ?_
      refine j_getR (b := (1, b, 7)) dX10_gatherFacts_68 fsRX10_289 (h1b 6 (by decide)) rfl rfl ?_
      refine j_iload_n 1 dX10_gatherFacts_71 rfl ?_
      obtain ⟨hq, h⟩ := h
      refine j_iald dX10_gatherFacts_72 (h1b 7 (by decide)) rfl hq ?_
      refine j_iast dX10_gatherFacts_73 (h0 16 (by decide)) rfl (by unfold vp_in; decide) ?_
      refine j_aload_n 2 dX10_gatherFacts_74 rfl ?_
      refine j_iconst (v := 5) dX10_gatherFacts_75 (by decide) ?_
      refine j_aload_n 0 dX10_gatherFacts_76 rfl ?_
      refine j_getR (b := (1, b, 6)) dX10_gatherFacts_77 fsRX10_41 (h1b 0 (by decide)) rfl rfl ?_
      refine j_iload_n 1 dX10_gatherFacts_80 rfl ?_
      refine j_invV (As := [.inl a1]) dX10_gatherFacts_81 msRX10_291 mbX6_isIll rfl rfl (Nat.le_of_ble_eq_true rfl) (Nat.le_of_ble_eq_true rfl) (by omega) (h1b 6 (by decide)) rfl rfl (k_X6_isIll (d := d + 1) h1b h) ?_
      rintro _ zM8 zN9 ⟨zr7, rfl, h⟩
      refine j_if_eq (tgt := 91) dX10_gatherFacts_84 (by decide) (fun hc => ?_) (fun hc => ?_)
      · replace h := h.1 hc
        refine j_iconst (v := 0) dX10_gatherFacts_91 (by decide) ?_
        refine j_sub [0, 1, 2] rfl ?_
        exact k_X10_gatherFacts_p92 h0 h1b h2 _ _ _ _ _ h
      · replace h := h.2 hc
        refine j_iconst (v := 1) dX10_gatherFacts_87 (by decide) ?_
        refine j_goto (tgt := 92) dX10_gatherFacts_88 (by decide) ?_
        refine j_sub [0, 1, 2] rfl ?_
        exact k_X10_gatherFacts_p92 h0 h1b h2 _ _ _ _ _ h
    · replace h := h.2 hc
      exact j_vret dX10_gatherFacts_14 rfl ⟨rfl, h⟩
def w_X10_stateOfWork (b : Nat) (a1 : Int32) (M : am_I) (N : am_N) (post : Int32 → am_I → am_N → Prop) : Prop :=
  w_X11_within a1 0 59 M N (fun zr1 zM2 zN3 => ((zr1 = 0 → post (-1) zM2 zN3) ∧ (¬ zr1 = 0 → vp_in a1 60 ∧ post (zM2 (1, b, 20) a1.toNatClampNeg) zM2 zN3)))
set_option maxRecDepth 10000 in
theorem k_X10_stateOfWork {d : Nat} {dm : List am_C} {b : Nat} (h1b : am_d1 dm b) {a1 : Int32} {M : am_I} {N : am_N} {post : Int32 → am_I → am_N → Prop} (h : w_X10_stateOfWork b a1 M N post) : jg (d + 2) mX10_stateOfWork dm 0 [(0, .inr (.inr (1, b, 0))), (1, .inl a1)] [] M N (am_pi post) := by
  refine j_iload_n 1 dX10_stateOfWork_0 rfl ?_
  refine j_iconst (v := 0) dX10_stateOfWork_1 (by decide) ?_
  refine j_bipush (v := 59) dX10_stateOfWork_2 (by decide) ?_
  refine j_invS (As := [.inl a1, .inl 0, .inl 59]) dX10_stateOfWork_4 msRX10_139 mbX11_within rfl rfl (Nat.le_of_ble_eq_true rfl) (Nat.le_of_ble_eq_true rfl) (by omega) (k_X11_within (d := d + 0)  h) ?_
  rintro _ zM2 zN3 ⟨zr1, rfl, h⟩
  refine j_if_eq (tgt := 19) dX10_stateOfWork_7 (by decide) (fun hc => ?_) (fun hc => ?_)
  · replace h := h.1 hc
    refine j_iconst (v := (-1)) dX10_stateOfWork_19 (by decide) ?_
    exact j_iret dX10_stateOfWork_20 rfl ⟨_, rfl, h⟩
  · replace h := h.2 hc
    refine j_aload_n 0 dX10_stateOfWork_10 rfl ?_
    refine j_getR (b := (1, b, 20)) dX10_stateOfWork_11 fsRX10_9 (h1b 0 (by decide)) rfl rfl ?_
    refine j_iload_n 1 dX10_stateOfWork_14 rfl ?_
    obtain ⟨hq, h⟩ := h
    refine j_iald dX10_stateOfWork_15 (h1b 20 (by decide)) rfl hq ?_
    refine j_goto (tgt := 20) dX10_stateOfWork_16 (by decide) ?_
    exact j_iret dX10_stateOfWork_20 rfl ⟨_, rfl, h⟩
def w_X10_doerOfWork (b : Nat) (a1 : Int32) (M : am_I) (N : am_N) (post : Int32 → am_I → am_N → Prop) : Prop :=
  w_X11_within a1 0 59 M N (fun zr1 zM2 zN3 => ((zr1 = 0 → post (-1) zM2 zN3) ∧ (¬ zr1 = 0 → vp_in a1 60 ∧ post (zM2 (1, b, 21) a1.toNatClampNeg) zM2 zN3)))
set_option maxRecDepth 10000 in
theorem k_X10_doerOfWork {d : Nat} {dm : List am_C} {b : Nat} (h1b : am_d1 dm b) {a1 : Int32} {M : am_I} {N : am_N} {post : Int32 → am_I → am_N → Prop} (h : w_X10_doerOfWork b a1 M N post) : jg (d + 2) mX10_doerOfWork dm 0 [(0, .inr (.inr (1, b, 0))), (1, .inl a1)] [] M N (am_pi post) := by
  refine j_iload_n 1 dX10_doerOfWork_0 rfl ?_
  refine j_iconst (v := 0) dX10_doerOfWork_1 (by decide) ?_
  refine j_bipush (v := 59) dX10_doerOfWork_2 (by decide) ?_
  refine j_invS (As := [.inl a1, .inl 0, .inl 59]) dX10_doerOfWork_4 msRX10_139 mbX11_within rfl rfl (Nat.le_of_ble_eq_true rfl) (Nat.le_of_ble_eq_true rfl) (by omega) (k_X11_within (d := d + 0)  h) ?_
  rintro _ zM2 zN3 ⟨zr1, rfl, h⟩
  refine j_if_eq (tgt := 19) dX10_doerOfWork_7 (by decide) (fun hc => ?_) (fun hc => ?_)
  · replace h := h.1 hc
    refine j_iconst (v := (-1)) dX10_doerOfWork_19 (by decide) ?_
    exact j_iret dX10_doerOfWork_20 rfl ⟨_, rfl, h⟩
  · replace h := h.2 hc
    refine j_aload_n 0 dX10_doerOfWork_10 rfl ?_
    refine j_getR (b := (1, b, 21)) dX10_doerOfWork_11 fsRX10_15 (h1b 0 (by decide)) rfl rfl ?_
    refine j_iload_n 1 dX10_doerOfWork_14 rfl ?_
    obtain ⟨hq, h⟩ := h
    refine j_iald dX10_doerOfWork_15 (h1b 21 (by decide)) rfl hq ?_
    refine j_goto (tgt := 20) dX10_doerOfWork_16 (by decide) ?_
    exact j_iret dX10_doerOfWork_20 rfl ⟨_, rfl, h⟩
def w_X10_hear_p240 (b : Nat) (post : am_I → am_N → Prop) (s0 : Int32) (s1 : Int32) (M : am_I) (N : am_N) : Prop :=
  w_X6_sicken b s1 s0 M N (fun zM1 zN2 => post zM1 zN2)
set_option maxRecDepth 10000 in
theorem k_X10_hear_p240 {d : Nat} {dm : List am_C} {b : Nat} (h0 : am_d0 dm) (h1b : am_d1 dm b) (h2 : am_d2 dm) {post : am_I → am_N → Prop} (s0 : Int32) (s1 : Int32) (M : am_I) (N : am_N) (h : w_X10_hear_p240 b post s0 s1 M N) : jg (d + 4) mX10_hear dm 240 [] [.inl s0, .inl s1, .inr (.inr (1, b, 6))] M N (am_pv post) := by
  refine j_invV (As := [.inl s1, .inl s0]) dX10_hear_240 msRX10_135 mbX6_sicken rfl rfl (Nat.le_of_ble_eq_true rfl) (Nat.le_of_ble_eq_true rfl) (by omega) (h1b 6 (by decide)) rfl rfl (k_X6_sicken (d := d + 0) h1b h) ?_
  rintro _ zM1 zN2 ⟨rfl, h⟩
  refine j_goto (tgt := 246) dX10_hear_243 (by decide) ?_
  exact j_vret dX10_hear_246 rfl ⟨rfl, h⟩
def w_X10_hear (b : Nat) (a1 : Int32) (M : am_I) (N : am_N) (post : am_I → am_N → Prop) : Prop :=
  w_X9_at 0 a1 2 M N (fun zr1 zM2 zN3 => w_X9_at 0 a1 3 zM2 zN3 (fun zr4 zM5 zN6 => w_X9_at 0 a1 1 zM5 zN6 (fun zr7 zM8 zN9 => ((zr7 = 0 → w_X9_at 0 a1 4 zM8 zN9 (fun zr10 zM11 zN12 => w_X2_shape b zr1 zr4 zr10 zM11 zN12 (fun zM13 zN14 => post zM13 zN14))) ∧ (zr7 = 1 → w_X10_adjust b zr1 zr4 zM8 zN9 (fun zM15 zN16 => post zM15 zN16)) ∧ (zr7 = 2 → post zM8 zN9) ∧ (zr7 = 3 → w_X10_bringCart b zr1 zM8 zN9 (fun zM17 zN18 => post zM17 zN18)) ∧ (zr7 = 4 → w_X1_refill b zr1 zM8 zN9 (fun zM19 zN20 => post zM19 zN20)) ∧ (zr7 = 5 → w_X10_openWork b zr1 zM8 zN9 (fun zM21 zN22 => post zM21 zN22)) ∧ (zr7 = 6 → post (am_u zM8 (1, b, 0) 11 ((zM8 (1, b, 0) 11) + 1)) zN9) ∧ (zr7 = 7 → post (am_u zM8 (1, b, 0) 10 ((zM8 (1, b, 0) 10) + 1)) zN9) ∧ (zr7 = 8 → w_X6_sow b zr1 (zM8 (1, b, 0) 10) zM8 zN9 (fun zM23 zN24 => post zM23 zN24)) ∧ (zr7 = 9 → w_X6_expose b zr1 zr4 zM8 zN9 (fun zM25 zN26 => post zM25 zN26)) ∧ (zr7 = 10 → w_X6_see b zr1 zr4 zM8 zN9 (fun zM27 zN28 => post zM27 zN28)) ∧ (zr7 = 11 → ((¬ zr4 = 1 → w_X10_hear_p240 b post 0 zr1 zM8 zN9) ∧ (zr4 = 1 → w_X10_hear_p240 b post 1 zr1 zM8 zN9))) ∧ (¬ zr7 = 0 → ¬ zr7 = 1 → ¬ zr7 = 2 → ¬ zr7 = 3 → ¬ zr7 = 4 → ¬ zr7 = 5 → ¬ zr7 = 6 → ¬ zr7 = 7 → ¬ zr7 = 8 → ¬ zr7 = 9 → ¬ zr7 = 10 → ¬ zr7 = 11 → post zM8 zN9)))))
set_option maxRecDepth 10000 in
theorem k_X10_hear {d : Nat} {dm : List am_C} {b : Nat} (h0 : am_d0 dm) (h1b : am_d1 dm b) (h2 : am_d2 dm) {a1 : Int32} {M : am_I} {N : am_N} {post : am_I → am_N → Prop} (h : w_X10_hear b a1 M N post) : jg (d + 4) mX10_hear dm 0 [(0, .inr (.inr (1, b, 0))), (1, .inl a1)] [] M N (am_pv post) := by
  refine j_aload_n 0 dX10_hear_0 rfl ?_
  refine j_getR (b := (0, 0, 1)) dX10_hear_1 fsRX10_21 (h1b 0 (by decide)) rfl rfl ?_
  refine j_getR (b := (2, 0, 0)) dX10_hear_4 fsRX10_91 (h0 1 (by decide)) rfl rfl ?_
  refine j_iload_n 1 dX10_hear_7 rfl ?_
  refine j_iconst (v := 2) dX10_hear_8 (by decide) ?_
  refine j_invV (As := [.inl a1, .inl 2]) dX10_hear_9 msRX10_102 mbX9_at rfl rfl (Nat.le_of_ble_eq_true rfl) (Nat.le_of_ble_eq_true rfl) (by omega) (h2 0 (by decide) 0 (by decide)) rfl rfl (k_X9_at (d := d + 2) h2 (by decide) h) ?_
  rintro _ zM2 zN3 ⟨zr1, rfl, h⟩
  refine j_istore_n dX10_hear_12 (by decide) rfl ?_
  refine j_aload_n 1 dX10_hear_13 rfl ?_
  refine j_getR (b := (0, 0, 1)) dX10_hear_14 fsRX10_21 (h1b 0 (by decide)) rfl rfl ?_
  refine j_getR (b := (2, 0, 0)) dX10_hear_17 fsRX10_91 (h0 1 (by decide)) rfl rfl ?_
  refine j_iload_n 2 dX10_hear_20 rfl ?_
  refine j_iconst (v := 3) dX10_hear_21 (by decide) ?_
  refine j_invV (As := [.inl a1, .inl 3]) dX10_hear_22 msRX10_102 mbX9_at rfl rfl (Nat.le_of_ble_eq_true rfl) (Nat.le_of_ble_eq_true rfl) (by omega) (h2 0 (by decide) 0 (by decide)) rfl rfl (k_X9_at (d := d + 2) h2 (by decide) h) ?_
  rintro _ zM5 zN6 ⟨zr4, rfl, h⟩
  refine j_istore_n dX10_hear_25 (by decide) rfl ?_
  refine j_aload_n 2 dX10_hear_26 rfl ?_
  refine j_getR (b := (0, 0, 1)) dX10_hear_27 fsRX10_21 (h1b 0 (by decide)) rfl rfl ?_
  refine j_getR (b := (2, 0, 0)) dX10_hear_30 fsRX10_91 (h0 1 (by decide)) rfl rfl ?_
  refine j_iload_n 3 dX10_hear_33 rfl ?_
  refine j_iconst (v := 1) dX10_hear_34 (by decide) ?_
  refine j_invV (As := [.inl a1, .inl 1]) dX10_hear_35 msRX10_102 mbX9_at rfl rfl (Nat.le_of_ble_eq_true rfl) (Nat.le_of_ble_eq_true rfl) (by omega) (h2 0 (by decide) 0 (by decide)) rfl rfl (k_X9_at (d := d + 2) h2 (by decide) h) ?_
  rintro _ zM8 zN9 ⟨zr7, rfl, h⟩
  by_cases hs0 : zr7 = 0
  · replace h := h.1 hs0
    refine j_tabK (k := 0) (tgt := 100) (off := 62) dX10_hear_38 hs0 (by decide) (by decide) (by decide) (by decide) ?_
    refine j_aload_n 2 dX10_hear_100 rfl ?_
    refine j_getR (b := (1, b, 1)) dX10_hear_101 fsRX10_32 (h1b 0 (by decide)) rfl rfl ?_
    refine j_iload_n 1 dX10_hear_104 rfl ?_
    refine j_iload_n 0 dX10_hear_105 rfl ?_
    refine j_aload_n 2 dX10_hear_106 rfl ?_
    refine j_getR (b := (0, 0, 1)) dX10_hear_107 fsRX10_21 (h1b 0 (by decide)) rfl rfl ?_
    refine j_getR (b := (2, 0, 0)) dX10_hear_110 fsRX10_91 (h0 1 (by decide)) rfl rfl ?_
    refine j_iload_n 3 dX10_hear_113 rfl ?_
    refine j_iconst (v := 4) dX10_hear_114 (by decide) ?_
    refine j_invV (As := [.inl a1, .inl 4]) dX10_hear_115 msRX10_102 mbX9_at rfl rfl (Nat.le_of_ble_eq_true rfl) (Nat.le_of_ble_eq_true rfl) (by omega) (h2 0 (by decide) 0 (by decide)) rfl rfl (k_X9_at (d := d + 2) h2 (by decide) h) ?_
    rintro _ zM11 zN12 ⟨zr10, rfl, h⟩
    refine j_invV (As := [.inl zr1, .inl zr4, .inl zr10]) dX10_hear_118 msRX10_110 mbX2_shape rfl rfl (Nat.le_of_ble_eq_true rfl) (Nat.le_of_ble_eq_true rfl) (by omega) (h1b 1 (by decide)) rfl rfl (k_X2_shape (d := d + 1) h1b h) ?_
    rintro _ zM13 zN14 ⟨rfl, h⟩
    refine j_goto (tgt := 246) dX10_hear_121 (by decide) ?_
    exact j_vret dX10_hear_246 rfl ⟨rfl, h⟩
  by_cases hs1 : zr7 = 1
  · replace h := h.2.1 hs1
    refine j_tabK (k := 1) (tgt := 124) (off := 86) dX10_hear_38 hs1 (by decide) (by decide) (by decide) (by decide) ?_
    refine j_aload_n 2 dX10_hear_124 rfl ?_
    refine j_iload_n 1 dX10_hear_125 rfl ?_
    refine j_iload_n 0 dX10_hear_126 rfl ?_
    refine j_invV (As := [.inl zr1, .inl zr4]) dX10_hear_127 msRX10_114 mbX10_adjust rfl rfl (Nat.le_of_ble_eq_true rfl) (Nat.le_of_ble_eq_true rfl) (by omega) (h1b 0 (by decide)) rfl rfl (k_X10_adjust (d := d + 1) h1b h) ?_
    rintro _ zM15 zN16 ⟨rfl, h⟩
    refine j_goto (tgt := 246) dX10_hear_130 (by decide) ?_
    exact j_vret dX10_hear_246 rfl ⟨rfl, h⟩
  by_cases hs2 : zr7 = 2
  · replace h := h.2.2.1 hs2
    refine j_tabK (k := 2) (tgt := 246) (off := 208) dX10_hear_38 hs2 (by decide) (by decide) (by decide) (by decide) ?_
    exact j_vret dX10_hear_246 rfl ⟨rfl, h⟩
  by_cases hs3 : zr7 = 3
  · replace h := h.2.2.2.1 hs3
    refine j_tabK (k := 3) (tgt := 133) (off := 95) dX10_hear_38 hs3 (by decide) (by decide) (by decide) (by decide) ?_
    refine j_aload_n 2 dX10_hear_133 rfl ?_
    refine j_iload_n 1 dX10_hear_134 rfl ?_
    refine j_invV (As := [.inl zr1]) dX10_hear_135 msRX10_117 mbX10_bringCart rfl rfl (Nat.le_of_ble_eq_true rfl) (Nat.le_of_ble_eq_true rfl) (by omega) (h1b 0 (by decide)) rfl rfl (k_X10_bringCart (d := d + 0) h0 h1b h2 h) ?_
    rintro _ zM17 zN18 ⟨rfl, h⟩
    refine j_goto (tgt := 246) dX10_hear_138 (by decide) ?_
    exact j_vret dX10_hear_246 rfl ⟨rfl, h⟩
  by_cases hs4 : zr7 = 4
  · replace h := h.2.2.2.2.1 hs4
    refine j_tabK (k := 4) (tgt := 141) (off := 103) dX10_hear_38 hs4 (by decide) (by decide) (by decide) (by decide) ?_
    refine j_aload_n 2 dX10_hear_141 rfl ?_
    refine j_getR (b := (1, b, 14)) dX10_hear_142 fsRX10_48 (h1b 0 (by decide)) rfl rfl ?_
    refine j_iload_n 1 dX10_hear_145 rfl ?_
    refine j_invV (As := [.inl zr1]) dX10_hear_146 msRX10_120 mbX1_refill rfl rfl (Nat.le_of_ble_eq_true rfl) (Nat.le_of_ble_eq_true rfl) (by omega) (h1b 14 (by decide)) rfl rfl (k_X1_refill (d := d + 0) h0 h1b h2 h) ?_
    rintro _ zM19 zN20 ⟨rfl, h⟩
    refine j_goto (tgt := 246) dX10_hear_149 (by decide) ?_
    exact j_vret dX10_hear_246 rfl ⟨rfl, h⟩
  by_cases hs5 : zr7 = 5
  · replace h := h.2.2.2.2.2.1 hs5
    refine j_tabK (k := 5) (tgt := 152) (off := 114) dX10_hear_38 hs5 (by decide) (by decide) (by decide) (by decide) ?_
    refine j_aload_n 2 dX10_hear_152 rfl ?_
    refine j_iload_n 1 dX10_hear_153 rfl ?_
    refine j_invV (As := [.inl zr1]) dX10_hear_154 msRX10_123 mbX10_openWork rfl rfl (Nat.le_of_ble_eq_true rfl) (Nat.le_of_ble_eq_true rfl) (by omega) (h1b 0 (by decide)) rfl rfl (k_X10_openWork (d := d + 1) h1b h) ?_
    rintro _ zM21 zN22 ⟨rfl, h⟩
    refine j_goto (tgt := 246) dX10_hear_157 (by decide) ?_
    exact j_vret dX10_hear_246 rfl ⟨rfl, h⟩
  by_cases hs6 : zr7 = 6
  · replace h := h.2.2.2.2.2.2.1 hs6
    refine j_tabK (k := 6) (tgt := 160) (off := 122) dX10_hear_38 hs6 (by decide) (by decide) (by decide) (by decide) ?_
    refine j_aload_n 2 dX10_hear_160 rfl ?_
    refine j_dup dX10_hear_161 rfl ?_
    refine j_getI dX10_hear_162 fsRX10_76 (h1b 0 (by decide)) rfl ?_
    refine j_iconst (v := 1) dX10_hear_165 (by decide) ?_
    refine j_iadd dX10_hear_166 ?_
    refine j_putI dX10_hear_167 fwRX10_76 (h1b 0 (by decide)) rfl ?_
    refine j_goto (tgt := 246) dX10_hear_170 (by decide) ?_
    exact j_vret dX10_hear_246 rfl ⟨rfl, h⟩
  by_cases hs7 : zr7 = 7
  · replace h := h.2.2.2.2.2.2.2.1 hs7
    refine j_tabK (k := 7) (tgt := 173) (off := 135) dX10_hear_38 hs7 (by decide) (by decide) (by decide) (by decide) ?_
    refine j_aload_n 2 dX10_hear_173 rfl ?_
    refine j_dup dX10_hear_174 rfl ?_
    refine j_getI dX10_hear_175 fsRX10_73 (h1b 0 (by decide)) rfl ?_
    refine j_iconst (v := 1) dX10_hear_178 (by decide) ?_
    refine j_iadd dX10_hear_179 ?_
    refine j_putI dX10_hear_180 fwRX10_73 (h1b 0 (by decide)) rfl ?_
    refine j_goto (tgt := 246) dX10_hear_183 (by decide) ?_
    exact j_vret dX10_hear_246 rfl ⟨rfl, h⟩
  by_cases hs8 : zr7 = 8
  · replace h := h.2.2.2.2.2.2.2.2.1 hs8
    refine j_tabK (k := 8) (tgt := 186) (off := 148) dX10_hear_38 hs8 (by decide) (by decide) (by decide) (by decide) ?_
    refine j_aload_n 2 dX10_hear_186 rfl ?_
    refine j_getR (b := (1, b, 6)) dX10_hear_187 fsRX10_41 (h1b 0 (by decide)) rfl rfl ?_
    refine j_iload_n 1 dX10_hear_190 rfl ?_
    refine j_aload_n 2 dX10_hear_191 rfl ?_
    refine j_getI dX10_hear_192 fsRX10_73 (h1b 0 (by decide)) rfl ?_
    refine j_invV (As := [.inl zr1, .inl (zM8 (1, b, 0) 10)]) dX10_hear_195 msRX10_126 mbX6_sow rfl rfl (Nat.le_of_ble_eq_true rfl) (Nat.le_of_ble_eq_true rfl) (by omega) (h1b 6 (by decide)) rfl rfl (k_X6_sow (d := d + 0) h0 h1b h2 h) ?_
    rintro _ zM23 zN24 ⟨rfl, h⟩
    refine j_goto (tgt := 246) dX10_hear_198 (by decide) ?_
    exact j_vret dX10_hear_246 rfl ⟨rfl, h⟩
  by_cases hs9 : zr7 = 9
  · replace h := h.2.2.2.2.2.2.2.2.2.1 hs9
    refine j_tabK (k := 9) (tgt := 201) (off := 163) dX10_hear_38 hs9 (by decide) (by decide) (by decide) (by decide) ?_
    refine j_aload_n 2 dX10_hear_201 rfl ?_
    refine j_getR (b := (1, b, 6)) dX10_hear_202 fsRX10_41 (h1b 0 (by decide)) rfl rfl ?_
    refine j_iload_n 1 dX10_hear_205 rfl ?_
    refine j_iload_n 0 dX10_hear_206 rfl ?_
    refine j_invV (As := [.inl zr1, .inl zr4]) dX10_hear_207 msRX10_129 mbX6_expose rfl rfl (Nat.le_of_ble_eq_true rfl) (Nat.le_of_ble_eq_true rfl) (by omega) (h1b 6 (by decide)) rfl rfl (k_X6_expose (d := d + 1) h1b h) ?_
    rintro _ zM25 zN26 ⟨rfl, h⟩
    refine j_goto (tgt := 246) dX10_hear_210 (by decide) ?_
    exact j_vret dX10_hear_246 rfl ⟨rfl, h⟩
  by_cases hs10 : zr7 = 10
  · replace h := h.2.2.2.2.2.2.2.2.2.2.1 hs10
    refine j_tabK (k := 10) (tgt := 213) (off := 175) dX10_hear_38 hs10 (by decide) (by decide) (by decide) (by decide) ?_
    refine j_aload_n 2 dX10_hear_213 rfl ?_
    refine j_getR (b := (1, b, 6)) dX10_hear_214 fsRX10_41 (h1b 0 (by decide)) rfl rfl ?_
    refine j_iload_n 1 dX10_hear_217 rfl ?_
    refine j_iload_n 0 dX10_hear_218 rfl ?_
    refine j_invV (As := [.inl zr1, .inl zr4]) dX10_hear_219 msRX10_132 mbX6_see rfl rfl (Nat.le_of_ble_eq_true rfl) (Nat.le_of_ble_eq_true rfl) (by omega) (h1b 6 (by decide)) rfl rfl (k_X6_see (d := d + 0) h0 h1b h2 h) ?_
    rintro _ zM27 zN28 ⟨rfl, h⟩
    refine j_goto (tgt := 246) dX10_hear_222 (by decide) ?_
    exact j_vret dX10_hear_246 rfl ⟨rfl, h⟩
  by_cases hs11 : zr7 = 11
  · replace h := h.2.2.2.2.2.2.2.2.2.2.2.1 hs11
    refine j_tabK (k := 11) (tgt := 225) (off := 187) dX10_hear_38 hs11 (by decide) (by decide) (by decide) (by decide) ?_
    refine j_aload_n 2 dX10_hear_225 rfl ?_
    refine j_getR (b := (1, b, 6)) dX10_hear_226 fsRX10_41 (h1b 0 (by decide)) rfl rfl ?_
    refine j_iload_n 1 dX10_hear_229 rfl ?_
    refine j_iload_n 0 dX10_hear_230 rfl ?_
    refine j_iconst (v := 1) dX10_hear_231 (by decide) ?_
    refine j_icmp_ne (tgt := 239) dX10_hear_232 (by decide) (fun hc => ?_) (fun hc => ?_)
    · replace h := h.1 hc
      refine j_iconst (v := 0) dX10_hear_239 (by decide) ?_
      refine j_sub [] rfl ?_
      exact k_X10_hear_p240 h0 h1b h2 _ _ _ _ h
    · replace h := h.2 hc
      refine j_iconst (v := 1) dX10_hear_235 (by decide) ?_
      refine j_goto (tgt := 240) dX10_hear_236 (by decide) ?_
      refine j_sub [] rfl ?_
      exact k_X10_hear_p240 h0 h1b h2 _ _ _ _ h
  replace h := h.2.2.2.2.2.2.2.2.2.2.2.2 hs0 hs1 hs2 hs3 hs4 hs5 hs6 hs7 hs8 hs9 hs10 hs11
  refine j_tableOut (tgt := 246) dX10_hear_38 (am_sw0 (n := 11) (fun k hk => match k, hk with | 0, _ => hs0 | 1, _ => hs1 | 2, _ => hs2 | 3, _ => hs3 | 4, _ => hs4 | 5, _ => hs5 | 6, _ => hs6 | 7, _ => hs7 | 8, _ => hs8 | 9, _ => hs9 | 10, _ => hs10 | 11, _ => hs11 | k + 12, hk => absurd hk (by omega))) (by decide) ?_
  exact j_vret dX10_hear_246 rfl ⟨rfl, h⟩
def w_X10_cheapest_p78 (b : Nat) (post : Int32 → am_I → am_N → Prop) (zk8 : Int32 → Int32 → Int32 → Int32 → Int32 → am_I → am_N → Prop) (l1 : Int32) (l2 : Int32) (l5 : Int32) (l7 : Int32) (M : am_I) (N : am_N) : Prop :=
  zk8 l1 l2 l5 l7 (l5 + 1) M N
set_option maxRecDepth 10000 in
theorem k_X10_cheapest_p78 {d : Nat} {dm : List am_C} {b : Nat} (h0 : am_d0 dm) (h1b : am_d1 dm b) (h2 : am_d2 dm) {post : Int32 → am_I → am_N → Prop} {zk8 : Int32 → Int32 → Int32 → Int32 → Int32 → am_I → am_N → Prop} (zhk8 : ∀ (l1 : Int32) (l2 : Int32) (l3 : Int32) (l4 : Int32) (l5 : Int32) (M : am_I) (N : am_N), zk8 l1 l2 l3 l4 l5 M N → jg (d + 4) mX10_cheapest dm 8 [(0, .inr (.inr (1, b, 0))), (1, .inl l1), (2, .inl l2), (3, .inl l3), (4, .inl l4), (5, .inl l5)] [] M N (am_pi post)) (l1 : Int32) (l2 : Int32) (l5 : Int32) (l7 : Int32) (M : am_I) (N : am_N) (h : w_X10_cheapest_p78 b post zk8 l1 l2 l5 l7 M N) : jg (d + 4) mX10_cheapest dm 78 [(0, .inr (.inr (1, b, 0))), (1, .inl l1), (2, .inl l2), (5, .inl l5), (7, .inl l7)] [] M N (am_pi post) := by
  refine j_iload 3 dX10_cheapest_78 rfl ?_
  refine j_istore_n dX10_cheapest_80 (by decide) rfl ?_
  refine j_iload 5 dX10_cheapest_81 rfl ?_
  refine j_istore dX10_cheapest_83 (by decide) rfl ?_
  refine j_iinc 5 dX10_cheapest_85 rfl rfl (by decide) rfl ?_
  refine j_goto (tgt := 8) dX10_cheapest_88 (by decide) ?_
  refine j_sub [3, 4, 5, 2, 1, 0] rfl ?_
  exact zhk8 _ _ _ _ _ _ _ h
def w_X10_cheapest_p35 (b : Nat) (post : Int32 → am_I → am_N → Prop) (zk8 : Int32 → Int32 → Int32 → Int32 → Int32 → am_I → am_N → Prop) (l1 : Int32) (l2 : Int32) (l3 : Int32) (l4 : Int32) (l5 : Int32) (s0 : Int32) (M : am_I) (N : am_N) : Prop :=
  w_X5_hasWay l5 s0 M N (fun zr1 zM2 zN3 => ((¬ zr1 = 0 → w_X5_costTo l5 s0 zM2 zN3 (fun zr4 zM5 zN6 => ((l3 < 0 → w_X10_cheapest_p78 b post zk8 l1 l2 l5 zr4 zM5 zN6) ∧ (¬ l3 < 0 → ((l4 ≤ zr4 → zk8 l1 l2 l3 l4 (l5 + 1) zM5 zN6) ∧ (¬ l4 ≤ zr4 → w_X10_cheapest_p78 b post zk8 l1 l2 l5 zr4 zM5 zN6)))))) ∧ (zr1 = 0 → zk8 l1 l2 l3 l4 (l5 + 1) zM2 zN3)))
set_option maxRecDepth 10000 in
theorem k_X10_cheapest_p35 {d : Nat} {dm : List am_C} {b : Nat} (h0 : am_d0 dm) (h1b : am_d1 dm b) (h2 : am_d2 dm) {post : Int32 → am_I → am_N → Prop} {zk8 : Int32 → Int32 → Int32 → Int32 → Int32 → am_I → am_N → Prop} (zhk8 : ∀ (l1 : Int32) (l2 : Int32) (l3 : Int32) (l4 : Int32) (l5 : Int32) (M : am_I) (N : am_N), zk8 l1 l2 l3 l4 l5 M N → jg (d + 4) mX10_cheapest dm 8 [(0, .inr (.inr (1, b, 0))), (1, .inl l1), (2, .inl l2), (3, .inl l3), (4, .inl l4), (5, .inl l5)] [] M N (am_pi post)) (l1 : Int32) (l2 : Int32) (l3 : Int32) (l4 : Int32) (l5 : Int32) (s0 : Int32) (M : am_I) (N : am_N) (h : w_X10_cheapest_p35 b post zk8 l1 l2 l3 l4 l5 s0 M N) : jg (d + 4) mX10_cheapest dm 35 [(0, .inr (.inr (1, b, 0))), (1, .inl l1), (2, .inl l2), (3, .inl l3), (4, .inl l4), (5, .inl l5)] [.inl s0] M N (am_pi post) := by
  refine j_istore dX10_cheapest_35 (by decide) rfl ?_
  refine j_aload_n 1 dX10_cheapest_37 rfl ?_
  refine j_getR (b := (0, 0, 2)) dX10_cheapest_38 fsRX10_25 (h1b 0 (by decide)) rfl rfl ?_
  refine j_iload 6 dX10_cheapest_41 rfl ?_
  refine j_iload 0 dX10_cheapest_43 rfl ?_
  refine j_invV (As := [.inl l5, .inl s0]) dX10_cheapest_45 msRX10_207 mbX5_hasWay rfl rfl (Nat.le_of_ble_eq_true rfl) (Nat.le_of_ble_eq_true rfl) (by omega) (h0 2 (by decide)) rfl rfl (k_X5_hasWay (d := d + 2) h0 h) ?_
  rintro _ zM2 zN3 ⟨zr1, rfl, h⟩
  refine j_if_ne (tgt := 54) dX10_cheapest_48 (by decide) (fun hc => ?_) (fun hc => ?_)
  · replace h := h.1 hc
    refine j_aload_n 1 dX10_cheapest_54 rfl ?_
    refine j_getR (b := (0, 0, 2)) dX10_cheapest_55 fsRX10_25 (h1b 0 (by decide)) rfl rfl ?_
    refine j_iload 6 dX10_cheapest_58 rfl ?_
    refine j_iload 0 dX10_cheapest_60 rfl ?_
    refine j_invV (As := [.inl l5, .inl s0]) dX10_cheapest_62 msRX10_210 mbX5_costTo rfl rfl (Nat.le_of_ble_eq_true rfl) (Nat.le_of_ble_eq_true rfl) (by omega) (h0 2 (by decide)) rfl rfl (k_X5_costTo (d := d + 1) h0 h) ?_
    rintro _ zM5 zN6 ⟨zr4, rfl, h⟩
    refine j_istore dX10_cheapest_65 (by decide) rfl ?_
    refine j_iload_n 5 dX10_cheapest_67 rfl ?_
    refine j_if_lt (tgt := 78) dX10_cheapest_68 (by decide) (fun hc => ?_) (fun hc => ?_)
    · replace h := h.1 hc
      refine j_sub [2, 3, 4, 7, 0] rfl ?_
      exact k_X10_cheapest_p78 h0 h1b h2 zhk8 _ _ _ _ _ _ h
    · replace h := h.2 hc
      refine j_iload 0 dX10_cheapest_71 rfl ?_
      refine j_iload 6 dX10_cheapest_73 rfl ?_
      refine j_icmp_ge (tgt := 85) dX10_cheapest_75 (by decide) (fun hc => ?_) (fun hc => ?_)
      · replace h := h.1 hc
        refine j_iinc 7 dX10_cheapest_85 rfl rfl (by decide) rfl ?_
        refine j_goto (tgt := 8) dX10_cheapest_88 (by decide) ?_
        refine j_sub [3, 4, 5, 6, 7, 0] rfl ?_
        exact zhk8 _ _ _ _ _ _ _ h
      · replace h := h.2 hc
        refine j_sub [2, 3, 4, 7, 0] rfl ?_
        exact k_X10_cheapest_p78 h0 h1b h2 zhk8 _ _ _ _ _ _ h
  · replace h := h.2 hc
    refine j_goto (tgt := 85) dX10_cheapest_51 (by decide) ?_
    refine j_iinc 6 dX10_cheapest_85 rfl rfl (by decide) rfl ?_
    refine j_goto (tgt := 8) dX10_cheapest_88 (by decide) ?_
    refine j_sub [2, 3, 4, 5, 6, 0] rfl ?_
    exact zhk8 _ _ _ _ _ _ _ h
def w_X10_cheapest_p8_b (b : Nat) (post : Int32 → am_I → am_N → Prop) (zk8 : Int32 → Int32 → Int32 → Int32 → Int32 → am_I → am_N → Prop) (l1 : Int32) (l2 : Int32) (l3 : Int32) (l4 : Int32) (l5 : Int32) (M : am_I) (N : am_N) : Prop :=
  ((8 ≤ l5 → post l3 M N) ∧ (¬ 8 ≤ l5 → (((l1 &&& ((1 : Int32) <<< (l5 &&& 31))) = 0 → w_X10_cheapest_p35 b post zk8 l1 l2 l3 l4 l5 (-1) M N) ∧ (¬ (l1 &&& ((1 : Int32) <<< (l5 &&& 31))) = 0 → w_X10_goalOf b l5 l2 M N (fun zr1 zM2 zN3 => w_X10_cheapest_p35 b post zk8 l1 l2 l3 l4 l5 zr1 zM2 zN3)))))
noncomputable def w_X10_cheapest_p8 (b : Nat) (post : Int32 → am_I → am_N → Prop) (n : Nat) : Int32 → Int32 → Int32 → Int32 → Int32 → am_I → am_N → Prop :=
  Nat.rec (motive := fun _ => Int32 → Int32 → Int32 → Int32 → Int32 → am_I → am_N → Prop) (fun _ _ _ _ _ _ _ => False) (fun _ zk => w_X10_cheapest_p8_b b post zk) n
theorem w_X10_cheapest_p8_s (b : Nat) (post : Int32 → am_I → am_N → Prop) (n : Nat) (l1 : Int32) (l2 : Int32) (l3 : Int32) (l4 : Int32) (l5 : Int32) (M : am_I) (N : am_N) : w_X10_cheapest_p8 b post (n + 1) l1 l2 l3 l4 l5 M N = w_X10_cheapest_p8_b b post (w_X10_cheapest_p8 b post n) l1 l2 l3 l4 l5 M N := rfl
set_option maxRecDepth 10000 in
theorem k_X10_cheapest_p8 {d : Nat} {dm : List am_C} {b : Nat} (h0 : am_d0 dm) (h1b : am_d1 dm b) (h2 : am_d2 dm) {post : Int32 → am_I → am_N → Prop} : ∀ (n : Nat) (l1 : Int32) (l2 : Int32) (l3 : Int32) (l4 : Int32) (l5 : Int32) (M : am_I) (N : am_N), w_X10_cheapest_p8 b post n l1 l2 l3 l4 l5 M N → jg (d + 4) mX10_cheapest dm 8 [(0, .inr (.inr (1, b, 0))), (1, .inl l1), (2, .inl l2), (3, .inl l3), (4, .inl l4), (5, .inl l5)] [] M N (am_pi post) := by
  intro n
  induction n with
  | zero => intro l1 l2 l3 l4 l5 M N h; exact h.elim
  | succ n zih =>
    intro l1 l2 l3 l4 l5 M N h
    replace h : w_X10_cheapest_p8_b b post (w_X10_cheapest_p8 b post n) l1 l2 l3 l4 l5 M N := h
    refine j_iload 5 dX10_cheapest_8 rfl ?_
    refine j_bipush (v := 8) dX10_cheapest_10 (by decide) ?_
    refine j_icmp_ge (tgt := 91) dX10_cheapest_12 (by decide) (fun hc => ?_) (fun hc => ?_)
    · replace h := h.1 hc
      refine j_iload_n 3 dX10_cheapest_91 rfl ?_
      exact j_iret dX10_cheapest_92 rfl ⟨_, rfl, h⟩
    · replace h := h.2 hc
      refine j_iload_n 1 dX10_cheapest_15 rfl ?_
      refine j_iconst (v := 1) dX10_cheapest_16 (by decide) ?_
      refine j_iload 5 dX10_cheapest_17 rfl ?_
      refine j_ishl dX10_cheapest_19 ?_
      refine j_iand dX10_cheapest_20 ?_
      refine j_if_eq (tgt := 34) dX10_cheapest_21 (by decide) (fun hc => ?_) (fun hc => ?_)
      · replace h := h.1 hc
        refine j_iconst (v := (-1)) dX10_cheapest_34 (by decide) ?_
        refine j_sub [0, 1, 2, 3, 4, 5] rfl ?_
        exact k_X10_cheapest_p35 h0 h1b h2 zih _ _ _ _ _ _ _ _ h
      · replace h := h.2 hc
        refine j_aload_n 0 dX10_cheapest_24 rfl ?_
        refine j_iload 5 dX10_cheapest_25 rfl ?_
        refine j_iload_n 2 dX10_cheapest_27 rfl ?_
        refine j_invV (As := [.inl l5, .inl l2]) dX10_cheapest_28 msRX10_204 mbX10_goalOf rfl rfl (Nat.le_of_ble_eq_true rfl) (Nat.le_of_ble_eq_true rfl) (by omega) (h1b 0 (by decide)) rfl rfl (k_X10_goalOf (d := d + 0) h0 h1b h2 h) ?_
        rintro _ zM2 zN3 ⟨zr1, rfl, h⟩
        refine j_goto (tgt := 35) dX10_cheapest_31 (by decide) ?_
        refine j_sub [0, 1, 2, 3, 4, 5] rfl ?_
        exact k_X10_cheapest_p35 h0 h1b h2 zih _ _ _ _ _ _ _ _ h
def w_X10_cheapest (b : Nat) (a1 : Int32) (a2 : Int32) (M : am_I) (N : am_N) (post : Int32 → am_I → am_N → Prop) : Prop :=
  ∃ n, w_X10_cheapest_p8 b post n a1 a2 (-1) 0 0 M N
set_option maxRecDepth 10000 in
theorem k_X10_cheapest {d : Nat} {dm : List am_C} {b : Nat} (h0 : am_d0 dm) (h1b : am_d1 dm b) (h2 : am_d2 dm) {a1 : Int32} {a2 : Int32} {M : am_I} {N : am_N} {post : Int32 → am_I → am_N → Prop} (h : w_X10_cheapest b a1 a2 M N post) : jg (d + 4) mX10_cheapest dm 0 [(0, .inr (.inr (1, b, 0))), (1, .inl a1), (2, .inl a2)] [] M N (am_pi post) := by
  refine j_iconst (v := (-1)) dX10_cheapest_0 (by decide) ?_
  refine j_istore_n dX10_cheapest_1 (by decide) rfl ?_
  refine j_iconst (v := 0) dX10_cheapest_2 (by decide) ?_
  refine j_istore dX10_cheapest_3 (by decide) rfl ?_
  refine j_iconst (v := 0) dX10_cheapest_5 (by decide) ?_
  refine j_istore dX10_cheapest_6 (by decide) rfl ?_
  refine j_sub [3, 4, 5, 2, 1, 0] rfl ?_
  obtain ⟨n, h⟩ := h
  exact k_X10_cheapest_p8 h0 h1b h2 n _ _ _ _ _ _ _ h
def w_X10_isAtWork (b : Nat) (a1 : Int32) (a2 : Int32) (M : am_I) (N : am_N) (post : Int32 → am_I → am_N → Prop) : Prop :=
  vp_in a1 8 ∧ w_X9_at 3 a2 1 M N (fun zr1 zM2 zN3 => w_X11_far (M (1, b, 15) a1.toNatClampNeg) zr1 zM2 zN3 (fun zr4 zM5 zN6 => w_X9_at 3 a2 0 zM5 zN6 (fun zr7 zM8 zN9 => ((¬ zr7 = 3 → ((¬ zr4 = 0 → post 0 zM8 zN9) ∧ (zr4 = 0 → post 1 zM8 zN9))) ∧ (zr7 = 3 → ((¬ zr4 = 1 → post 0 zM8 zN9) ∧ (zr4 = 1 → post 1 zM8 zN9)))))))
set_option maxRecDepth 10000 in
theorem k_X10_isAtWork {d : Nat} {dm : List am_C} {b : Nat} (h0 : am_d0 dm) (h1b : am_d1 dm b) (h2 : am_d2 dm) {a1 : Int32} {a2 : Int32} {M : am_I} {N : am_N} {post : Int32 → am_I → am_N → Prop} (h : w_X10_isAtWork b a1 a2 M N post) : jg (d + 3) mX10_isAtWork dm 0 [(0, .inr (.inr (1, b, 0))), (1, .inl a1), (2, .inl a2)] [] M N (am_pi post) := by
  refine j_aload_n 0 dX10_isAtWork_0 rfl ?_
  refine j_getR (b := (1, b, 14)) dX10_isAtWork_1 fsRX10_48 (h1b 0 (by decide)) rfl rfl ?_
  refine j_getR (b := (1, b, 15)) dX10_isAtWork_4 fsRX10_241 (h1b 14 (by decide)) rfl rfl ?_
  refine j_iload_n 1 dX10_isAtWork_7 rfl ?_
  obtain ⟨hq, h⟩ := h
  refine j_iald dX10_isAtWork_8 (h1b 15 (by decide)) rfl hq ?_
  refine j_aload_n 0 dX10_isAtWork_9 rfl ?_
  refine j_getR (b := (0, 0, 1)) dX10_isAtWork_10 fsRX10_21 (h1b 0 (by decide)) rfl rfl ?_
  refine j_getR (b := (2, 3, 0)) dX10_isAtWork_13 fsRX10_182 (h0 1 (by decide)) rfl rfl ?_
  refine j_iload_n 2 dX10_isAtWork_16 rfl ?_
  refine j_iconst (v := 1) dX10_isAtWork_17 (by decide) ?_
  refine j_invV (As := [.inl a2, .inl 1]) dX10_isAtWork_18 msRX10_102 mbX9_at rfl rfl (Nat.le_of_ble_eq_true rfl) (Nat.le_of_ble_eq_true rfl) (by omega) (h2 3 (by decide) 0 (by decide)) rfl rfl (k_X9_at (d := d + 1) h2 (by decide) h) ?_
  rintro _ zM2 zN3 ⟨zr1, rfl, h⟩
  refine j_invS (As := [.inl (M (1, b, 15) a1.toNatClampNeg), .inl zr1]) dX10_isAtWork_21 msRX10_244 mbX11_far rfl rfl (Nat.le_of_ble_eq_true rfl) (Nat.le_of_ble_eq_true rfl) (by omega) (k_X11_far (d := d + 0)  h) ?_
  rintro _ zM5 zN6 ⟨zr4, rfl, h⟩
  refine j_istore_n dX10_isAtWork_24 (by decide) rfl ?_
  refine j_aload_n 1 dX10_isAtWork_25 rfl ?_
  refine j_getR (b := (0, 0, 1)) dX10_isAtWork_26 fsRX10_21 (h1b 0 (by decide)) rfl rfl ?_
  refine j_getR (b := (2, 3, 0)) dX10_isAtWork_29 fsRX10_182 (h0 1 (by decide)) rfl rfl ?_
  refine j_iload_n 3 dX10_isAtWork_32 rfl ?_
  refine j_iconst (v := 0) dX10_isAtWork_33 (by decide) ?_
  refine j_invV (As := [.inl a2, .inl 0]) dX10_isAtWork_34 msRX10_102 mbX9_at rfl rfl (Nat.le_of_ble_eq_true rfl) (Nat.le_of_ble_eq_true rfl) (by omega) (h2 3 (by decide) 0 (by decide)) rfl rfl (k_X9_at (d := d + 1) h2 (by decide) h) ?_
  rintro _ zM8 zN9 ⟨zr7, rfl, h⟩
  refine j_iconst (v := 3) dX10_isAtWork_37 (by decide) ?_
  refine j_icmp_ne (tgt := 54) dX10_isAtWork_38 (by decide) (fun hc => ?_) (fun hc => ?_)
  · replace h := h.1 hc
    refine j_iload_n 0 dX10_isAtWork_54 rfl ?_
    refine j_if_ne (tgt := 62) dX10_isAtWork_55 (by decide) (fun hc => ?_) (fun hc => ?_)
    · replace h := h.1 hc
      refine j_iconst (v := 0) dX10_isAtWork_62 (by decide) ?_
      exact j_zret dX10_isAtWork_63 rfl (Or.inl rfl) ⟨_, rfl, h⟩
    · replace h := h.2 hc
      refine j_iconst (v := 1) dX10_isAtWork_58 (by decide) ?_
      refine j_goto (tgt := 63) dX10_isAtWork_59 (by decide) ?_
      exact j_zret dX10_isAtWork_63 rfl (Or.inr rfl) ⟨_, rfl, h⟩
  · replace h := h.2 hc
    refine j_iload_n 0 dX10_isAtWork_41 rfl ?_
    refine j_iconst (v := 1) dX10_isAtWork_42 (by decide) ?_
    refine j_icmp_ne (tgt := 50) dX10_isAtWork_43 (by decide) (fun hc => ?_) (fun hc => ?_)
    · replace h := h.1 hc
      refine j_iconst (v := 0) dX10_isAtWork_50 (by decide) ?_
      refine j_goto (tgt := 63) dX10_isAtWork_51 (by decide) ?_
      exact j_zret dX10_isAtWork_63 rfl (Or.inl rfl) ⟨_, rfl, h⟩
    · replace h := h.2 hc
      refine j_iconst (v := 1) dX10_isAtWork_46 (by decide) ?_
      refine j_goto (tgt := 63) dX10_isAtWork_47 (by decide) ?_
      exact j_zret dX10_isAtWork_63 rfl (Or.inr rfl) ⟨_, rfl, h⟩
def w_X10_doWork_p140 (b : Nat) (post : am_I → am_N → Prop) (l1 : Int32) (M : am_I) (N : am_N) : Prop :=
  vp_in l1 8 ∧ vp_in l1 8 ∧ post (am_u (am_u M (1, b, 18) l1.toNatClampNeg (-1)) (1, b, 17) l1.toNatClampNeg 0) N
set_option maxRecDepth 10000 in
theorem k_X10_doWork_p140 {d : Nat} {dm : List am_C} {b : Nat} (h0 : am_d0 dm) (h1b : am_d1 dm b) (h2 : am_d2 dm) {post : am_I → am_N → Prop} (l1 : Int32) (M : am_I) (N : am_N) (h : w_X10_doWork_p140 b post l1 M N) : jg (d + 4) mX10_doWork dm 140 [(0, .inr (.inr (1, b, 0))), (1, .inl l1)] [] M N (am_pv post) := by
  refine j_aload_n 0 dX10_doWork_140 rfl ?_
  refine j_getR (b := (1, b, 14)) dX10_doWork_141 fsRX10_48 (h1b 0 (by decide)) rfl rfl ?_
  refine j_getR (b := (1, b, 18)) dX10_doWork_144 fsRX10_216 (h1b 14 (by decide)) rfl rfl ?_
  refine j_iload_n 1 dX10_doWork_147 rfl ?_
  refine j_iconst (v := (-1)) dX10_doWork_148 (by decide) ?_
  obtain ⟨hq, h⟩ := h
  refine j_iast dX10_doWork_149 (h1b 18 (by decide)) rfl hq ?_
  refine j_aload_n 0 dX10_doWork_150 rfl ?_
  refine j_getR (b := (1, b, 14)) dX10_doWork_151 fsRX10_48 (h1b 0 (by decide)) rfl rfl ?_
  refine j_getR (b := (1, b, 17)) dX10_doWork_154 fsRX10_219 (h1b 14 (by decide)) rfl rfl ?_
  refine j_iload_n 1 dX10_doWork_157 rfl ?_
  refine j_iconst (v := 0) dX10_doWork_158 (by decide) ?_
  obtain ⟨hq, h⟩ := h
  refine j_iast dX10_doWork_159 (h1b 17 (by decide)) rfl hq ?_
  exact j_vret dX10_doWork_160 rfl ⟨rfl, h⟩
def w_X10_doWork_p123 (b : Nat) (post : am_I → am_N → Prop) (l1 : Int32) (l2 : Int32) (M : am_I) (N : am_N) : Prop :=
  w_X11_within l2 0 59 M N (fun zr1 zM2 zN3 => ((zr1 = 0 → w_X10_doWork_p140 b post l1 zM2 zN3) ∧ (¬ zr1 = 0 → vp_in l2 60 ∧ w_X10_doWork_p140 b post l1 (am_u zM2 (1, b, 20) l2.toNatClampNeg 2) zN3)))
set_option maxRecDepth 10000 in
theorem k_X10_doWork_p123 {d : Nat} {dm : List am_C} {b : Nat} (h0 : am_d0 dm) (h1b : am_d1 dm b) (h2 : am_d2 dm) {post : am_I → am_N → Prop} (l1 : Int32) (l2 : Int32) (M : am_I) (N : am_N) (h : w_X10_doWork_p123 b post l1 l2 M N) : jg (d + 4) mX10_doWork dm 123 [(0, .inr (.inr (1, b, 0))), (1, .inl l1), (2, .inl l2)] [] M N (am_pv post) := by
  refine j_iload_n 2 dX10_doWork_123 rfl ?_
  refine j_iconst (v := 0) dX10_doWork_124 (by decide) ?_
  refine j_bipush (v := 59) dX10_doWork_125 (by decide) ?_
  refine j_invS (As := [.inl l2, .inl 0, .inl 59]) dX10_doWork_127 msRX10_139 mbX11_within rfl rfl (Nat.le_of_ble_eq_true rfl) (Nat.le_of_ble_eq_true rfl) (by omega) (k_X11_within (d := d + 2)  h) ?_
  rintro _ zM2 zN3 ⟨zr1, rfl, h⟩
  refine j_if_eq (tgt := 140) dX10_doWork_130 (by decide) (fun hc => ?_) (fun hc => ?_)
  · replace h := h.1 hc
    refine j_sub [0, 1] rfl ?_
    exact k_X10_doWork_p140 h0 h1b h2 _ _ _ h
  · replace h := h.2 hc
    refine j_aload_n 0 dX10_doWork_133 rfl ?_
    refine j_getR (b := (1, b, 20)) dX10_doWork_134 fsRX10_9 (h1b 0 (by decide)) rfl rfl ?_
    refine j_iload_n 2 dX10_doWork_137 rfl ?_
    refine j_iconst (v := 2) dX10_doWork_138 (by decide) ?_
    obtain ⟨hq, h⟩ := h
    refine j_iast dX10_doWork_139 (h1b 20 (by decide)) rfl hq ?_
    refine j_sub [0, 1] rfl ?_
    exact k_X10_doWork_p140 h0 h1b h2 _ _ _ h
def w_X10_doWork (b : Nat) (a1 : Int32) (a2 : Int32) (M : am_I) (N : am_N) (post : am_I → am_N → Prop) : Prop :=
  w_X9_at 3 a2 1 M N (fun zr1 zM2 zN3 => w_X9_at 3 a2 0 zM2 zN3 (fun zr4 zM5 zN6 => ((zr4 = 0 → w_X6_marksOn b zr1 zM5 zN6 (fun zr7 zM8 zN9 => w_X6_see b zr1 zr7 zM8 zN9 (fun zM10 zN11 => w_X10_doWork_p123 b post a1 a2 zM10 zN11))) ∧ (zr4 = 1 → w_X6_remove b zr1 2 zM5 zN6 (fun zM12 zN13 => w_X10_doWork_p123 b post a1 a2 zM12 zN13)) ∧ (zr4 = 2 → w_X9_at 3 a2 2 zM5 zN6 (fun zr14 zM15 zN16 => w_X6_nourish b zr1 zr14 zM15 zN16 (fun zM17 zN18 => w_X10_doWork_p123 b post a1 a2 zM17 zN18))) ∧ (¬ zr4 = 0 → ¬ zr4 = 1 → ¬ zr4 = 2 → vp_in a1 8 ∧ w_X1_freeOneStuck b zr1 (zM5 (1, b, 15) a1.toNatClampNeg) zM5 zN6 (fun zM19 zN20 => w_X10_doWork_p123 b post a1 a2 zM19 zN20)))))
set_option maxRecDepth 10000 in
theorem k_X10_doWork {d : Nat} {dm : List am_C} {b : Nat} (h0 : am_d0 dm) (h1b : am_d1 dm b) (h2 : am_d2 dm) {a1 : Int32} {a2 : Int32} {M : am_I} {N : am_N} {post : am_I → am_N → Prop} (h : w_X10_doWork b a1 a2 M N post) : jg (d + 4) mX10_doWork dm 0 [(0, .inr (.inr (1, b, 0))), (1, .inl a1), (2, .inl a2)] [] M N (am_pv post) := by
  refine j_aload_n 0 dX10_doWork_0 rfl ?_
  refine j_getR (b := (0, 0, 1)) dX10_doWork_1 fsRX10_21 (h1b 0 (by decide)) rfl rfl ?_
  refine j_getR (b := (2, 3, 0)) dX10_doWork_4 fsRX10_182 (h0 1 (by decide)) rfl rfl ?_
  refine j_iload_n 2 dX10_doWork_7 rfl ?_
  refine j_iconst (v := 1) dX10_doWork_8 (by decide) ?_
  refine j_invV (As := [.inl a2, .inl 1]) dX10_doWork_9 msRX10_102 mbX9_at rfl rfl (Nat.le_of_ble_eq_true rfl) (Nat.le_of_ble_eq_true rfl) (by omega) (h2 3 (by decide) 0 (by decide)) rfl rfl (k_X9_at (d := d + 2) h2 (by decide) h) ?_
  rintro _ zM2 zN3 ⟨zr1, rfl, h⟩
  refine j_istore_n dX10_doWork_12 (by decide) rfl ?_
  refine j_aload_n 1 dX10_doWork_13 rfl ?_
  refine j_getR (b := (0, 0, 1)) dX10_doWork_14 fsRX10_21 (h1b 0 (by decide)) rfl rfl ?_
  refine j_getR (b := (2, 3, 0)) dX10_doWork_17 fsRX10_182 (h0 1 (by decide)) rfl rfl ?_
  refine j_iload_n 3 dX10_doWork_20 rfl ?_
  refine j_iconst (v := 0) dX10_doWork_21 (by decide) ?_
  refine j_invV (As := [.inl a2, .inl 0]) dX10_doWork_22 msRX10_102 mbX9_at rfl rfl (Nat.le_of_ble_eq_true rfl) (Nat.le_of_ble_eq_true rfl) (by omega) (h2 3 (by decide) 0 (by decide)) rfl rfl (k_X9_at (d := d + 2) h2 (by decide) h) ?_
  rintro _ zM5 zN6 ⟨zr4, rfl, h⟩
  by_cases hs0 : zr4 = 0
  · replace h := h.1 hs0
    refine j_tabK (k := 0) (tgt := 52) (off := 27) dX10_doWork_25 hs0 (by decide) (by decide) (by decide) (by decide) ?_
    refine j_aload_n 1 dX10_doWork_52 rfl ?_
    refine j_getR (b := (1, b, 6)) dX10_doWork_53 fsRX10_41 (h1b 0 (by decide)) rfl rfl ?_
    refine j_iload_n 0 dX10_doWork_56 rfl ?_
    refine j_aload_n 1 dX10_doWork_57 rfl ?_
    refine j_getR (b := (1, b, 6)) dX10_doWork_58 fsRX10_41 (h1b 0 (by decide)) rfl rfl ?_
    refine j_iload_n 0 dX10_doWork_61 rfl ?_
    refine j_invV (As := [.inl zr1]) dX10_doWork_62 msRX10_247 mbX6_marksOn rfl rfl (Nat.le_of_ble_eq_true rfl) (Nat.le_of_ble_eq_true rfl) (by omega) (h1b 6 (by decide)) rfl rfl (k_X6_marksOn (d := d + 1) h1b h) ?_
    rintro _ zM8 zN9 ⟨zr7, rfl, h⟩
    refine j_invV (As := [.inl zr1, .inl zr7]) dX10_doWork_65 msRX10_132 mbX6_see rfl rfl (Nat.le_of_ble_eq_true rfl) (Nat.le_of_ble_eq_true rfl) (by omega) (h1b 6 (by decide)) rfl rfl (k_X6_see (d := d + 0) h0 h1b h2 h) ?_
    rintro _ zM10 zN11 ⟨rfl, h⟩
    refine j_goto (tgt := 123) dX10_doWork_68 (by decide) ?_
    refine j_sub [1, 2, 3] rfl ?_
    exact k_X10_doWork_p123 h0 h1b h2 _ _ _ _ h
  by_cases hs1 : zr4 = 1
  · replace h := h.2.1 hs1
    refine j_tabK (k := 1) (tgt := 71) (off := 46) dX10_doWork_25 hs1 (by decide) (by decide) (by decide) (by decide) ?_
    refine j_aload_n 1 dX10_doWork_71 rfl ?_
    refine j_getR (b := (1, b, 6)) dX10_doWork_72 fsRX10_41 (h1b 0 (by decide)) rfl rfl ?_
    refine j_iload_n 0 dX10_doWork_75 rfl ?_
    refine j_iconst (v := 2) dX10_doWork_76 (by decide) ?_
    refine j_invV (As := [.inl zr1, .inl 2]) dX10_doWork_77 msRX10_250 mbX6_remove rfl rfl (Nat.le_of_ble_eq_true rfl) (Nat.le_of_ble_eq_true rfl) (by omega) (h1b 6 (by decide)) rfl rfl (k_X6_remove (d := d + 0) h1b h) ?_
    rintro _ zM12 zN13 ⟨rfl, h⟩
    refine j_goto (tgt := 123) dX10_doWork_80 (by decide) ?_
    refine j_sub [1, 2, 3] rfl ?_
    exact k_X10_doWork_p123 h0 h1b h2 _ _ _ _ h
  by_cases hs2 : zr4 = 2
  · replace h := h.2.2.1 hs2
    refine j_tabK (k := 2) (tgt := 83) (off := 58) dX10_doWork_25 hs2 (by decide) (by decide) (by decide) (by decide) ?_
    refine j_aload_n 1 dX10_doWork_83 rfl ?_
    refine j_getR (b := (1, b, 6)) dX10_doWork_84 fsRX10_41 (h1b 0 (by decide)) rfl rfl ?_
    refine j_iload_n 0 dX10_doWork_87 rfl ?_
    refine j_aload_n 1 dX10_doWork_88 rfl ?_
    refine j_getR (b := (0, 0, 1)) dX10_doWork_89 fsRX10_21 (h1b 0 (by decide)) rfl rfl ?_
    refine j_getR (b := (2, 3, 0)) dX10_doWork_92 fsRX10_182 (h0 1 (by decide)) rfl rfl ?_
    refine j_iload_n 3 dX10_doWork_95 rfl ?_
    refine j_iconst (v := 2) dX10_doWork_96 (by decide) ?_
    refine j_invV (As := [.inl a2, .inl 2]) dX10_doWork_97 msRX10_102 mbX9_at rfl rfl (Nat.le_of_ble_eq_true rfl) (Nat.le_of_ble_eq_true rfl) (by omega) (h2 3 (by decide) 0 (by decide)) rfl rfl (k_X9_at (d := d + 2) h2 (by decide) h) ?_
    rintro _ zM15 zN16 ⟨zr14, rfl, h⟩
    refine j_invV (As := [.inl zr1, .inl zr14]) dX10_doWork_100 msRX10_253 mbX6_nourish rfl rfl (Nat.le_of_ble_eq_true rfl) (Nat.le_of_ble_eq_true rfl) (by omega) (h1b 6 (by decide)) rfl rfl (k_X6_nourish (d := d + 0) h1b h) ?_
    rintro _ zM17 zN18 ⟨rfl, h⟩
    refine j_goto (tgt := 123) dX10_doWork_103 (by decide) ?_
    refine j_sub [1, 2, 3] rfl ?_
    exact k_X10_doWork_p123 h0 h1b h2 _ _ _ _ h
  replace h := h.2.2.2 hs0 hs1 hs2
  refine j_tableOut (tgt := 106) dX10_doWork_25 (am_sw0 (n := 2) (fun k hk => match k, hk with | 0, _ => hs0 | 1, _ => hs1 | 2, _ => hs2 | k + 3, hk => absurd hk (by omega))) (by decide) ?_
  refine j_aload_n 1 dX10_doWork_106 rfl ?_
  refine j_getR (b := (1, b, 14)) dX10_doWork_107 fsRX10_48 (h1b 0 (by decide)) rfl rfl ?_
  refine j_iload_n 0 dX10_doWork_110 rfl ?_
  refine j_aload_n 1 dX10_doWork_111 rfl ?_
  refine j_getR (b := (1, b, 14)) dX10_doWork_112 fsRX10_48 (h1b 0 (by decide)) rfl rfl ?_
  refine j_getR (b := (1, b, 15)) dX10_doWork_115 fsRX10_241 (h1b 14 (by decide)) rfl rfl ?_
  refine j_iload_n 2 dX10_doWork_118 rfl ?_
  obtain ⟨hq, h⟩ := h
  refine j_iald dX10_doWork_119 (h1b 15 (by decide)) rfl hq ?_
  refine j_invV (As := [.inl zr1, .inl (zM5 (1, b, 15) a1.toNatClampNeg)]) dX10_doWork_120 msRX10_256 mbX1_freeOneStuck rfl rfl (Nat.le_of_ble_eq_true rfl) (Nat.le_of_ble_eq_true rfl) (by omega) (h1b 14 (by decide)) rfl rfl (k_X1_freeOneStuck (d := d + 2) h1b h) ?_
  rintro _ zM19 zN20 ⟨rfl, h⟩
  refine j_sub [1, 2, 3] rfl ?_
  exact k_X10_doWork_p123 h0 h1b h2 _ _ _ _ h
def w_X10_move_p218 (b : Nat) (post : am_I → am_N → Prop) (l1 : Int32) (l4 : Int32) (M : am_I) (N : am_N) : Prop :=
  vp_in l4 64 ∧ w_X9_at 2 l1 2 M N (fun zr1 zM2 zN3 => (((M (1, b, 3) l4.toNatClampNeg) ≤ zr1 → post zM2 zN3) ∧ (¬ (M (1, b, 3) l4.toNatClampNeg) ≤ zr1 → w_X10_leaveWork b l1 4 zM2 zN3 (fun zM4 zN5 => w_X1_hearOf b l4 (zM4 (1, b, 22) 3) zM4 zN5 (fun zM6 zN7 => post zM6 zN7)))))
set_option maxRecDepth 10000 in
theorem k_X10_move_p218 {d : Nat} {dm : List am_C} {b : Nat} (h0 : am_d0 dm) (h1b : am_d1 dm b) (h2 : am_d2 dm) {post : am_I → am_N → Prop} (l1 : Int32) (l4 : Int32) (M : am_I) (N : am_N) (h : w_X10_move_p218 b post l1 l4 M N) : jg (d + 4) mX10_move dm 218 [(0, .inr (.inr (1, b, 0))), (1, .inl l1), (4, .inl l4)] [] M N (am_pv post) := by
  refine j_aload_n 0 dX10_move_218 rfl ?_
  refine j_getR (b := (1, b, 1)) dX10_move_219 fsRX10_32 (h1b 0 (by decide)) rfl rfl ?_
  refine j_getR (b := (1, b, 3)) dX10_move_222 fsRX10_277 (h1b 1 (by decide)) rfl rfl ?_
  refine j_iload 2 dX10_move_225 rfl ?_
  obtain ⟨hq, h⟩ := h
  refine j_iald dX10_move_227 (h1b 3 (by decide)) rfl hq ?_
  refine j_aload_n 0 dX10_move_228 rfl ?_
  refine j_getR (b := (0, 0, 1)) dX10_move_229 fsRX10_21 (h1b 0 (by decide)) rfl rfl ?_
  refine j_getR (b := (2, 2, 0)) dX10_move_232 fsRX10_189 (h0 1 (by decide)) rfl rfl ?_
  refine j_iload_n 1 dX10_move_235 rfl ?_
  refine j_iconst (v := 2) dX10_move_236 (by decide) ?_
  refine j_invV (As := [.inl l1, .inl 2]) dX10_move_237 msRX10_102 mbX9_at rfl rfl (Nat.le_of_ble_eq_true rfl) (Nat.le_of_ble_eq_true rfl) (by omega) (h2 2 (by decide) 0 (by decide)) rfl rfl (k_X9_at (d := d + 2) h2 (by decide) h) ?_
  rintro _ zM2 zN3 ⟨zr1, rfl, h⟩
  refine j_icmp_le (tgt := 264) dX10_move_240 (by decide) (fun hc => ?_) (fun hc => ?_)
  · replace h := h.1 hc
    exact j_vret dX10_move_264 rfl ⟨rfl, h⟩
  · replace h := h.2 hc
    refine j_aload_n 0 dX10_move_243 rfl ?_
    refine j_iload_n 1 dX10_move_244 rfl ?_
    refine j_iconst (v := 4) dX10_move_245 (by decide) ?_
    refine j_invV (As := [.inl l1, .inl 4]) dX10_move_246 msRX10_265 mbX10_leaveWork rfl rfl (Nat.le_of_ble_eq_true rfl) (Nat.le_of_ble_eq_true rfl) (by omega) (h1b 0 (by decide)) rfl rfl (k_X10_leaveWork (d := d + 1) h1b h) ?_
    rintro _ zM4 zN5 ⟨rfl, h⟩
    refine j_aload_n 0 dX10_move_249 rfl ?_
    refine j_getR (b := (1, b, 14)) dX10_move_250 fsRX10_48 (h1b 0 (by decide)) rfl rfl ?_
    refine j_iload 2 dX10_move_253 rfl ?_
    refine j_aload_n 0 dX10_move_255 rfl ?_
    refine j_getR (b := (1, b, 22)) dX10_move_256 fsRX10_18 (h1b 0 (by decide)) rfl rfl ?_
    refine j_iconst (v := 3) dX10_move_259 (by decide) ?_
    refine j_iald dX10_move_260 (h1b 22 (by decide)) rfl (by unfold vp_in; decide) ?_
    refine j_invV (As := [.inl l4, .inl (zM4 (1, b, 22) 3)]) dX10_move_261 msRX10_280 mbX1_hearOf rfl rfl (Nat.le_of_ble_eq_true rfl) (Nat.le_of_ble_eq_true rfl) (by omega) (h1b 14 (by decide)) rfl rfl (k_X1_hearOf (d := d + 0) h1b h) ?_
    rintro _ zM6 zN7 ⟨rfl, h⟩
    exact j_vret dX10_move_264 rfl ⟨rfl, h⟩
def w_X10_move_p88 (b : Nat) (post : am_I → am_N → Prop) (l1 : Int32) (l3 : Int32) (s0 : Int32) (s1 : Int32) (M : am_I) (N : am_N) : Prop :=
  w_X5_firstTo s1 s0 M N (fun zr1 zM2 zN3 => w_X11_isCell zr1 zM2 zN3 (fun zr4 zM5 zN6 => ((¬ zr4 = 0 → vp_in l1 8 ∧ ((¬ (zM5 (1, b, 16) l1.toNatClampNeg) = 0 → vp_in l1 8 ∧ vp_in l1 8 ∧ vp_in l1 8 ∧ vp_in zr1 64 ∧ w_X9_at 2 l1 1 (am_u (am_u zM5 (1, b, 16) l1.toNatClampNeg ((zM5 (1, b, 16) l1.toNatClampNeg) - 1)) (1, b, 15) l1.toNatClampNeg zr1) zN6 (fun zr7 zM8 zN9 => w_X2_heavy b zr7 zr1 zM8 zN9 (fun zr10 zM11 zN12 => vp_in zr1 64 ∧ vp_in zr1 64 ∧ ((((am_u zM11 (1, b, 4) zr1.toNatClampNeg (((am_u (am_u zM5 (1, b, 16) l1.toNatClampNeg ((zM5 (1, b, 16) l1.toNatClampNeg) - 1)) (1, b, 15) l1.toNatClampNeg zr1) (1, b, 4) zr1.toNatClampNeg) + zr10)) (1, b, 4) zr1.toNatClampNeg) ≤ ((am_u zM11 (1, b, 4) zr1.toNatClampNeg (((am_u (am_u zM5 (1, b, 16) l1.toNatClampNeg ((zM5 (1, b, 16) l1.toNatClampNeg) - 1)) (1, b, 15) l1.toNatClampNeg zr1) (1, b, 4) zr1.toNatClampNeg) + zr10)) (1, b, 22) 1) → w_X10_move_p218 b post l1 zr1 (am_u zM11 (1, b, 4) zr1.toNatClampNeg (((am_u (am_u zM5 (1, b, 16) l1.toNatClampNeg ((zM5 (1, b, 16) l1.toNatClampNeg) - 1)) (1, b, 15) l1.toNatClampNeg zr1) (1, b, 4) zr1.toNatClampNeg) + zr10)) zN12) ∧ (¬ ((am_u zM11 (1, b, 4) zr1.toNatClampNeg (((am_u (am_u zM5 (1, b, 16) l1.toNatClampNeg ((zM5 (1, b, 16) l1.toNatClampNeg) - 1)) (1, b, 15) l1.toNatClampNeg zr1) (1, b, 4) zr1.toNatClampNeg) + zr10)) (1, b, 4) zr1.toNatClampNeg) ≤ ((am_u zM11 (1, b, 4) zr1.toNatClampNeg (((am_u (am_u zM5 (1, b, 16) l1.toNatClampNeg ((zM5 (1, b, 16) l1.toNatClampNeg) - 1)) (1, b, 15) l1.toNatClampNeg zr1) (1, b, 4) zr1.toNatClampNeg) + zr10)) (1, b, 22) 1) → w_X6_remove b zr1 3 (am_u zM11 (1, b, 4) zr1.toNatClampNeg (((am_u (am_u zM5 (1, b, 16) l1.toNatClampNeg ((zM5 (1, b, 16) l1.toNatClampNeg) - 1)) (1, b, 15) l1.toNatClampNeg zr1) (1, b, 4) zr1.toNatClampNeg) + zr10)) zN12 (fun zM13 zN14 => w_X10_move_p218 b post l1 zr1 zM13 zN14)))))) ∧ ((zM5 (1, b, 16) l1.toNatClampNeg) = 0 → w_X10_leaveWork b l1 5 zM5 zN6 (fun zM15 zN16 => post zM15 zN16)))) ∧ (zr4 = 0 → ((¬ l3 = 0 → post zM5 zN6) ∧ (l3 = 0 → w_X10_leaveWork b l1 0 zM5 zN6 (fun zM17 zN18 => post zM17 zN18)))))))
set_option maxRecDepth 10000 in
theorem k_X10_move_p88 {d : Nat} {dm : List am_C} {b : Nat} (h0 : am_d0 dm) (h1b : am_d1 dm b) (h2 : am_d2 dm) {post : am_I → am_N → Prop} (l1 : Int32) (l3 : Int32) (s0 : Int32) (s1 : Int32) (M : am_I) (N : am_N) (h : w_X10_move_p88 b post l1 l3 s0 s1 M N) : jg (d + 4) mX10_move dm 88 [(0, .inr (.inr (1, b, 0))), (1, .inl l1), (3, .inl l3)] [.inl s0, .inl s1, .inr (.inr (0, 0, 2))] M N (am_pv post) := by
  refine j_invV (As := [.inl s1, .inl s0]) dX10_move_88 msRX10_259 mbX5_firstTo rfl rfl (Nat.le_of_ble_eq_true rfl) (Nat.le_of_ble_eq_true rfl) (by omega) (h0 2 (by decide)) rfl rfl (k_X5_firstTo (d := d + 1) h0 h) ?_
  rintro _ zM2 zN3 ⟨zr1, rfl, h⟩
  refine j_istore dX10_move_91 (by decide) rfl ?_
  refine j_iload 0 dX10_move_93 rfl ?_
  refine j_invS (As := [.inl zr1]) dX10_move_95 msRX10_262 mbX11_isCell rfl rfl (Nat.le_of_ble_eq_true rfl) (Nat.le_of_ble_eq_true rfl) (by omega) (k_X11_isCell (d := d + 2)  h) ?_
  rintro _ zM5 zN6 ⟨zr4, rfl, h⟩
  refine j_if_ne (tgt := 112) dX10_move_98 (by decide) (fun hc => ?_) (fun hc => ?_)
  · replace h := h.1 hc
    refine j_aload_n 1 dX10_move_112 rfl ?_
    refine j_getR (b := (1, b, 14)) dX10_move_113 fsRX10_48 (h1b 0 (by decide)) rfl rfl ?_
    refine j_getR (b := (1, b, 16)) dX10_move_116 fsRX10_268 (h1b 14 (by decide)) rfl rfl ?_
    refine j_iload_n 2 dX10_move_119 rfl ?_
    obtain ⟨hq, h⟩ := h
    refine j_iald dX10_move_120 (h1b 16 (by decide)) rfl hq ?_
    refine j_if_ne (tgt := 131) dX10_move_121 (by decide) (fun hc => ?_) (fun hc => ?_)
    · replace h := h.1 hc
      refine j_aload_n 1 dX10_move_131 rfl ?_
      refine j_getR (b := (1, b, 14)) dX10_move_132 fsRX10_48 (h1b 0 (by decide)) rfl rfl ?_
      refine j_getR (b := (1, b, 16)) dX10_move_135 fsRX10_268 (h1b 14 (by decide)) rfl rfl ?_
      refine j_iload_n 2 dX10_move_138 rfl ?_
      refine j_dup2 dX10_move_139 rfl rfl ?_
      obtain ⟨hq, h⟩ := h
      refine j_iald dX10_move_140 (h1b 16 (by decide)) rfl hq ?_
      refine j_iconst (v := 1) dX10_move_141 (by decide) ?_
      refine j_isub dX10_move_142 ?_
      obtain ⟨hq, h⟩ := h
      refine j_iast dX10_move_143 (h1b 16 (by decide)) rfl hq ?_
      refine j_aload_n 1 dX10_move_144 rfl ?_
      refine j_getR (b := (1, b, 14)) dX10_move_145 fsRX10_48 (h1b 0 (by decide)) rfl rfl ?_
      refine j_getR (b := (1, b, 15)) dX10_move_148 fsRX10_241 (h1b 14 (by decide)) rfl rfl ?_
      refine j_iload_n 2 dX10_move_151 rfl ?_
      refine j_iload 0 dX10_move_152 rfl ?_
      obtain ⟨hq, h⟩ := h
      refine j_iast dX10_move_154 (h1b 15 (by decide)) rfl hq ?_
      refine j_aload_n 1 dX10_move_155 rfl ?_
      refine j_getR (b := (1, b, 1)) dX10_move_156 fsRX10_32 (h1b 0 (by decide)) rfl rfl ?_
      refine j_getR (b := (1, b, 4)) dX10_move_159 fsRX10_271 (h1b 1 (by decide)) rfl rfl ?_
      refine j_iload 0 dX10_move_162 rfl ?_
      refine j_dup2 dX10_move_164 rfl rfl ?_
      obtain ⟨hq, h⟩ := h
      refine j_iald dX10_move_165 (h1b 4 (by decide)) rfl hq ?_
      refine j_aload_n 1 dX10_move_166 rfl ?_
      refine j_getR (b := (1, b, 1)) dX10_move_167 fsRX10_32 (h1b 0 (by decide)) rfl rfl ?_
      refine j_aload_n 1 dX10_move_170 rfl ?_
      refine j_getR (b := (0, 0, 1)) dX10_move_171 fsRX10_21 (h1b 0 (by decide)) rfl rfl ?_
      refine j_getR (b := (2, 2, 0)) dX10_move_174 fsRX10_189 (h0 1 (by decide)) rfl rfl ?_
      refine j_iload_n 2 dX10_move_177 rfl ?_
      refine j_iconst (v := 1) dX10_move_178 (by decide) ?_
      refine j_invV (As := [.inl l1, .inl 1]) dX10_move_179 msRX10_102 mbX9_at rfl rfl (Nat.le_of_ble_eq_true rfl) (Nat.le_of_ble_eq_true rfl) (by omega) (h2 2 (by decide) 0 (by decide)) rfl rfl (k_X9_at (d := d + 2) h2 (by decide) h) ?_
      rintro _ zM8 zN9 ⟨zr7, rfl, h⟩
      refine j_iload 0 dX10_move_182 rfl ?_
      refine j_invV (As := [.inl zr7, .inl zr1]) dX10_move_184 msRX10_274 mbX2_heavy rfl rfl (Nat.le_of_ble_eq_true rfl) (Nat.le_of_ble_eq_true rfl) (by omega) (h1b 1 (by decide)) rfl rfl (k_X2_heavy (d := d + 2) h1b h) ?_
      rintro _ zM11 zN12 ⟨zr10, rfl, h⟩
      refine j_iadd dX10_move_187 ?_
      obtain ⟨hq, h⟩ := h
      refine j_iast dX10_move_188 (h1b 4 (by decide)) rfl hq ?_
      refine j_aload_n 1 dX10_move_189 rfl ?_
      refine j_getR (b := (1, b, 1)) dX10_move_190 fsRX10_32 (h1b 0 (by decide)) rfl rfl ?_
      refine j_getR (b := (1, b, 4)) dX10_move_193 fsRX10_271 (h1b 1 (by decide)) rfl rfl ?_
      refine j_iload 0 dX10_move_196 rfl ?_
      obtain ⟨hq, h⟩ := h
      refine j_iald dX10_move_198 (h1b 4 (by decide)) rfl hq ?_
      refine j_aload_n 1 dX10_move_199 rfl ?_
      refine j_getR (b := (1, b, 22)) dX10_move_200 fsRX10_18 (h1b 0 (by decide)) rfl rfl ?_
      refine j_iconst (v := 1) dX10_move_203 (by decide) ?_
      refine j_iald dX10_move_204 (h1b 22 (by decide)) rfl (by unfold vp_in; decide) ?_
      refine j_icmp_le (tgt := 218) dX10_move_205 (by decide) (fun hc => ?_) (fun hc => ?_)
      · replace h := h.1 hc
        refine j_sub [1, 2, 0] rfl ?_
        exact k_X10_move_p218 h0 h1b h2 _ _ _ _ h
      · replace h := h.2 hc
        refine j_aload_n 1 dX10_move_208 rfl ?_
        refine j_getR (b := (1, b, 6)) dX10_move_209 fsRX10_41 (h1b 0 (by decide)) rfl rfl ?_
        refine j_iload 0 dX10_move_212 rfl ?_
        refine j_iconst (v := 3) dX10_move_214 (by decide) ?_
        refine j_invV (As := [.inl zr1, .inl 3]) dX10_move_215 msRX10_250 mbX6_remove rfl rfl (Nat.le_of_ble_eq_true rfl) (Nat.le_of_ble_eq_true rfl) (by omega) (h1b 6 (by decide)) rfl rfl (k_X6_remove (d := d + 0) h1b h) ?_
        rintro _ zM13 zN14 ⟨rfl, h⟩
        refine j_sub [1, 2, 0] rfl ?_
        exact k_X10_move_p218 h0 h1b h2 _ _ _ _ h
    · replace h := h.2 hc
      refine j_aload_n 1 dX10_move_124 rfl ?_
      refine j_iload_n 2 dX10_move_125 rfl ?_
      refine j_iconst (v := 5) dX10_move_126 (by decide) ?_
      refine j_invV (As := [.inl l1, .inl 5]) dX10_move_127 msRX10_265 mbX10_leaveWork rfl rfl (Nat.le_of_ble_eq_true rfl) (Nat.le_of_ble_eq_true rfl) (by omega) (h1b 0 (by decide)) rfl rfl (k_X10_leaveWork (d := d + 1) h1b h) ?_
      rintro _ zM15 zN16 ⟨rfl, h⟩
      exact j_vret dX10_move_130 rfl ⟨rfl, h⟩
  · replace h := h.2 hc
    refine j_iload_n 3 dX10_move_101 rfl ?_
    refine j_if_ne (tgt := 111) dX10_move_102 (by decide) (fun hc => ?_) (fun hc => ?_)
    · replace h := h.1 hc
      exact j_vret dX10_move_111 rfl ⟨rfl, h⟩
    · replace h := h.2 hc
      refine j_aload_n 1 dX10_move_105 rfl ?_
      refine j_iload_n 2 dX10_move_106 rfl ?_
      refine j_iconst (v := 0) dX10_move_107 (by decide) ?_
      refine j_invV (As := [.inl l1, .inl 0]) dX10_move_108 msRX10_265 mbX10_leaveWork rfl rfl (Nat.le_of_ble_eq_true rfl) (Nat.le_of_ble_eq_true rfl) (by omega) (h1b 0 (by decide)) rfl rfl (k_X10_leaveWork (d := d + 1) h1b h) ?_
      rintro _ zM17 zN18 ⟨rfl, h⟩
      exact j_vret dX10_move_111 rfl ⟨rfl, h⟩
def w_X10_move_p57 (b : Nat) (post : am_I → am_N → Prop) (l1 : Int32) (l2 : Int32) (s0 : Int32) (M : am_I) (N : am_N) : Prop :=
  ((s0 = 0 → w_X10_goalOf b l1 l2 M N (fun zr1 zM2 zN3 => w_X10_move_p88 b post l1 s0 zr1 l1 zM2 zN3)) ∧ (¬ s0 = 0 → w_X9_at 2 l1 3 M N (fun zr4 zM5 zN6 => w_X10_move_p88 b post l1 s0 zr4 l1 zM5 zN6)))
set_option maxRecDepth 10000 in
theorem k_X10_move_p57 {d : Nat} {dm : List am_C} {b : Nat} (h0 : am_d0 dm) (h1b : am_d1 dm b) (h2 : am_d2 dm) {post : am_I → am_N → Prop} (l1 : Int32) (l2 : Int32) (s0 : Int32) (M : am_I) (N : am_N) (h : w_X10_move_p57 b post l1 l2 s0 M N) : jg (d + 4) mX10_move dm 57 [(0, .inr (.inr (1, b, 0))), (1, .inl l1), (2, .inl l2)] [.inl s0] M N (am_pv post) := by
  refine j_istore_n dX10_move_57 (by decide) rfl ?_
  refine j_aload_n 1 dX10_move_58 rfl ?_
  refine j_getR (b := (0, 0, 2)) dX10_move_59 fsRX10_25 (h1b 0 (by decide)) rfl rfl ?_
  refine j_iload_n 2 dX10_move_62 rfl ?_
  refine j_iload_n 0 dX10_move_63 rfl ?_
  refine j_if_eq (tgt := 82) dX10_move_64 (by decide) (fun hc => ?_) (fun hc => ?_)
  · replace h := h.1 hc
    refine j_aload_n 1 dX10_move_82 rfl ?_
    refine j_iload_n 2 dX10_move_83 rfl ?_
    refine j_iload_n 3 dX10_move_84 rfl ?_
    refine j_invV (As := [.inl l1, .inl l2]) dX10_move_85 msRX10_204 mbX10_goalOf rfl rfl (Nat.le_of_ble_eq_true rfl) (Nat.le_of_ble_eq_true rfl) (by omega) (h1b 0 (by decide)) rfl rfl (k_X10_goalOf (d := d + 0) h0 h1b h2 h) ?_
    rintro _ zM2 zN3 ⟨zr1, rfl, h⟩
    refine j_sub [1, 2, 0] rfl ?_
    exact k_X10_move_p88 h0 h1b h2 _ _ _ _ _ _ h
  · replace h := h.2 hc
    refine j_aload_n 1 dX10_move_67 rfl ?_
    refine j_getR (b := (0, 0, 1)) dX10_move_68 fsRX10_21 (h1b 0 (by decide)) rfl rfl ?_
    refine j_getR (b := (2, 2, 0)) dX10_move_71 fsRX10_189 (h0 1 (by decide)) rfl rfl ?_
    refine j_iload_n 2 dX10_move_74 rfl ?_
    refine j_iconst (v := 3) dX10_move_75 (by decide) ?_
    refine j_invV (As := [.inl l1, .inl 3]) dX10_move_76 msRX10_102 mbX9_at rfl rfl (Nat.le_of_ble_eq_true rfl) (Nat.le_of_ble_eq_true rfl) (by omega) (h2 2 (by decide) 0 (by decide)) rfl rfl (k_X9_at (d := d + 2) h2 (by decide) h) ?_
    rintro _ zM5 zN6 ⟨zr4, rfl, h⟩
    refine j_goto (tgt := 88) dX10_move_79 (by decide) ?_
    refine j_sub [1, 2, 0] rfl ?_
    exact k_X10_move_p88 h0 h1b h2 _ _ _ _ _ _ h
def w_X10_move (b : Nat) (a1 : Int32) (M : am_I) (N : am_N) (post : am_I → am_N → Prop) : Prop :=
  w_X5_search b a1 (M (1, b, 22) 0) M N (fun zM1 zN2 => vp_in a1 8 ∧ ∀ zv3 : Int32, zv3 = zM1 (1, b, 18) a1.toNatClampNeg → vp_in a1 8 ∧ ((¬ (zM1 (1, b, 17) a1.toNatClampNeg) = 2 → w_X10_move_p57 b post a1 zv3 0 zM1 zN2) ∧ ((zM1 (1, b, 17) a1.toNatClampNeg) = 2 → w_X10_move_p57 b post a1 zv3 1 zM1 zN2)))
set_option maxRecDepth 10000 in
theorem k_X10_move {d : Nat} {dm : List am_C} {b : Nat} (h0 : am_d0 dm) (h1b : am_d1 dm b) (h2 : am_d2 dm) {a1 : Int32} {M : am_I} {N : am_N} {post : am_I → am_N → Prop} (h : w_X10_move b a1 M N post) : jg (d + 4) mX10_move dm 0 [(0, .inr (.inr (1, b, 0))), (1, .inl a1)] [] M N (am_pv post) := by
  refine j_aload_n 0 dX10_move_0 rfl ?_
  refine j_getR (b := (0, 0, 2)) dX10_move_1 fsRX10_25 (h1b 0 (by decide)) rfl rfl ?_
  refine j_iload_n 1 dX10_move_4 rfl ?_
  refine j_aload_n 0 dX10_move_5 rfl ?_
  refine j_getR (b := (0, 0, 1)) dX10_move_6 fsRX10_21 (h1b 0 (by decide)) rfl rfl ?_
  refine j_getR (b := (2, 2, 0)) dX10_move_9 fsRX10_189 (h0 1 (by decide)) rfl rfl ?_
  refine j_aload_n 0 dX10_move_12 rfl ?_
  refine j_getR (b := (1, b, 14)) dX10_move_13 fsRX10_48 (h1b 0 (by decide)) rfl rfl ?_
  refine j_aload_n 0 dX10_move_16 rfl ?_
  refine j_getR (b := (1, b, 1)) dX10_move_17 fsRX10_32 (h1b 0 (by decide)) rfl rfl ?_
  refine j_aload_n 0 dX10_move_20 rfl ?_
  refine j_getR (b := (1, b, 22)) dX10_move_21 fsRX10_18 (h1b 0 (by decide)) rfl rfl ?_
  refine j_iconst (v := 0) dX10_move_24 (by decide) ?_
  refine j_iald dX10_move_25 (h1b 22 (by decide)) rfl (by unfold vp_in; decide) ?_
  refine j_invV (As := [.inl a1, .inr (.inr (2, 2, 0)), .inr (.inr (1, b, 14)), .inr (.inr (1, b, 1)), .inl (M (1, b, 22) 0)]) dX10_move_26 msRX10_192 mbX5_search rfl rfl (Nat.le_of_ble_eq_true rfl) (Nat.le_of_ble_eq_true rfl) (by omega) (h0 2 (by decide)) rfl rfl (k_X5_search (d := d + 0) h0 h1b h2 h) ?_
  rintro _ zM1 zN2 ⟨rfl, h⟩
  refine j_aload_n 0 dX10_move_29 rfl ?_
  refine j_getR (b := (1, b, 14)) dX10_move_30 fsRX10_48 (h1b 0 (by decide)) rfl rfl ?_
  refine j_getR (b := (1, b, 18)) dX10_move_33 fsRX10_216 (h1b 14 (by decide)) rfl rfl ?_
  refine j_iload_n 1 dX10_move_36 rfl ?_
  obtain ⟨hq, h⟩ := h
  refine j_iald dX10_move_37 (h1b 18 (by decide)) rfl hq ?_
  refine j_topi (fun zv3 hzv3 => ?_)
  replace h := h zv3 hzv3
  refine j_istore_n dX10_move_38 (by decide) rfl ?_
  refine j_aload_n 1 dX10_move_39 rfl ?_
  refine j_getR (b := (1, b, 14)) dX10_move_40 fsRX10_48 (h1b 0 (by decide)) rfl rfl ?_
  refine j_getR (b := (1, b, 17)) dX10_move_43 fsRX10_219 (h1b 14 (by decide)) rfl rfl ?_
  refine j_iload_n 2 dX10_move_46 rfl ?_
  obtain ⟨hq, h⟩ := h
  refine j_iald dX10_move_47 (h1b 17 (by decide)) rfl hq ?_
  refine j_iconst (v := 2) dX10_move_48 (by decide) ?_
  refine j_icmp_ne (tgt := 56) dX10_move_49 (by decide) (fun hc => ?_) (fun hc => ?_)
  · replace h := h.1 hc
    refine j_iconst (v := 0) dX10_move_56 (by decide) ?_
    refine j_sub [1, 2, 0] rfl ?_
    exact k_X10_move_p57 h0 h1b h2 _ _ _ _ _ h
  · replace h := h.2 hc
    refine j_iconst (v := 1) dX10_move_52 (by decide) ?_
    refine j_goto (tgt := 57) dX10_move_53 (by decide) ?_
    refine j_sub [1, 2, 0] rfl ?_
    exact k_X10_move_p57 h0 h1b h2 _ _ _ _ _ h
def w_X10_hearTold_p5_b (b : Nat) (post : am_I → am_N → Prop) (zk5 : Int32 → am_I → am_N → Prop) (l1 : Int32) (M : am_I) (N : am_N) : Prop :=
  (((M (2, 0, 0) 3) ≤ l1 → post M N) ∧ (¬ (M (2, 0, 0) 3) ≤ l1 → w_X9_at 0 l1 0 M N (fun zr1 zM2 zN3 => (((zM2 (1, b, 0) 8) < zr1 → post zM2 zN3) ∧ (¬ (zM2 (1, b, 0) 8) < zr1 → w_X10_hear b l1 zM2 zN3 (fun zM4 zN5 => zk5 (l1 + 1) (am_u zM4 (1, b, 0) 9 ((zM4 (1, b, 0) 9) + 1)) zN5))))))
noncomputable def w_X10_hearTold_p5 (b : Nat) (post : am_I → am_N → Prop) (n : Nat) : Int32 → am_I → am_N → Prop :=
  Nat.rec (motive := fun _ => Int32 → am_I → am_N → Prop) (fun _ _ _ => False) (fun _ zk => w_X10_hearTold_p5_b b post zk) n
theorem w_X10_hearTold_p5_s (b : Nat) (post : am_I → am_N → Prop) (n : Nat) (l1 : Int32) (M : am_I) (N : am_N) : w_X10_hearTold_p5 b post (n + 1) l1 M N = w_X10_hearTold_p5_b b post (w_X10_hearTold_p5 b post n) l1 M N := rfl
set_option maxRecDepth 10000 in
theorem k_X10_hearTold_p5 {d : Nat} {dm : List am_C} {b : Nat} (h0 : am_d0 dm) (h1b : am_d1 dm b) (h2 : am_d2 dm) {post : am_I → am_N → Prop} : ∀ (n : Nat) (l1 : Int32) (M : am_I) (N : am_N), w_X10_hearTold_p5 b post n l1 M N → jg (d + 5) mX10_hearTold dm 5 [(0, .inr (.inr (1, b, 0))), (1, .inl l1)] [] M N (am_pv post) := by
  intro n
  induction n with
  | zero => intro l1 M N h; exact h.elim
  | succ n zih =>
    intro l1 M N h
    replace h : w_X10_hearTold_p5_b b post (w_X10_hearTold_p5 b post n) l1 M N := h
    refine j_iload_n 1 dX10_hearTold_5 rfl ?_
    refine j_aload_n 0 dX10_hearTold_6 rfl ?_
    refine j_getR (b := (0, 0, 1)) dX10_hearTold_7 fsRX10_21 (h1b 0 (by decide)) rfl rfl ?_
    refine j_getR (b := (2, 0, 0)) dX10_hearTold_10 fsRX10_91 (h0 1 (by decide)) rfl rfl ?_
    refine j_getI dX10_hearTold_13 fsRX10_97 (h2 0 (by decide) 0 (by decide)) rfl ?_
    refine j_icmp_ge (tgt := 59) dX10_hearTold_16 (by decide) (fun hc => ?_) (fun hc => ?_)
    · replace h := h.1 hc
      exact j_vret dX10_hearTold_59 rfl ⟨rfl, h⟩
    · replace h := h.2 hc
      refine j_aload_n 0 dX10_hearTold_19 rfl ?_
      refine j_getR (b := (0, 0, 1)) dX10_hearTold_20 fsRX10_21 (h1b 0 (by decide)) rfl rfl ?_
      refine j_getR (b := (2, 0, 0)) dX10_hearTold_23 fsRX10_91 (h0 1 (by decide)) rfl rfl ?_
      refine j_iload_n 1 dX10_hearTold_26 rfl ?_
      refine j_iconst (v := 0) dX10_hearTold_27 (by decide) ?_
      refine j_invV (As := [.inl l1, .inl 0]) dX10_hearTold_28 msRX10_102 mbX9_at rfl rfl (Nat.le_of_ble_eq_true rfl) (Nat.le_of_ble_eq_true rfl) (by omega) (h2 0 (by decide) 0 (by decide)) rfl rfl (k_X9_at (d := d + 3) h2 (by decide) h) ?_
      rintro _ zM2 zN3 ⟨zr1, rfl, h⟩
      refine j_aload_n 0 dX10_hearTold_31 rfl ?_
      refine j_getI dX10_hearTold_32 fsRX10_66 (h1b 0 (by decide)) rfl ?_
      refine j_icmp_gt (tgt := 59) dX10_hearTold_35 (by decide) (fun hc => ?_) (fun hc => ?_)
      · replace h := h.1 hc
        exact j_vret dX10_hearTold_59 rfl ⟨rfl, h⟩
      · replace h := h.2 hc
        refine j_aload_n 0 dX10_hearTold_38 rfl ?_
        refine j_iload_n 1 dX10_hearTold_39 rfl ?_
        refine j_invV (As := [.inl l1]) dX10_hearTold_40 msRX10_106 mbX10_hear rfl rfl (Nat.le_of_ble_eq_true rfl) (Nat.le_of_ble_eq_true rfl) (by omega) (h1b 0 (by decide)) rfl rfl (k_X10_hear (d := d + 0) h0 h1b h2 h) ?_
        rintro _ zM4 zN5 ⟨rfl, h⟩
        refine j_aload_n 0 dX10_hearTold_43 rfl ?_
        refine j_dup dX10_hearTold_44 rfl ?_
        refine j_getI dX10_hearTold_45 fsRX10_70 (h1b 0 (by decide)) rfl ?_
        refine j_iconst (v := 1) dX10_hearTold_48 (by decide) ?_
        refine j_iadd dX10_hearTold_49 ?_
        refine j_putI dX10_hearTold_50 fwRX10_70 (h1b 0 (by decide)) rfl ?_
        refine j_iinc 1 dX10_hearTold_53 rfl rfl (by decide) rfl ?_
        refine j_goto (tgt := 5) dX10_hearTold_56 (by decide) ?_
        refine j_sub [1, 0] rfl ?_
        exact zih _ _ _ h
def w_X10_hearTold (b : Nat) (M : am_I) (N : am_N) (post : am_I → am_N → Prop) : Prop :=
  ∀ zv1 : Int32, zv1 = M (1, b, 0) 9 → ∃ n, w_X10_hearTold_p5 b post n zv1 M N
set_option maxRecDepth 10000 in
theorem k_X10_hearTold {d : Nat} {dm : List am_C} {b : Nat} (h0 : am_d0 dm) (h1b : am_d1 dm b) (h2 : am_d2 dm) {M : am_I} {N : am_N} {post : am_I → am_N → Prop} (h : w_X10_hearTold b M N post) : jg (d + 5) mX10_hearTold dm 0 [(0, .inr (.inr (1, b, 0)))] [] M N (am_pv post) := by
  refine j_aload_n 0 dX10_hearTold_0 rfl ?_
  refine j_getI dX10_hearTold_1 fsRX10_70 (h1b 0 (by decide)) rfl ?_
  refine j_topi (fun zv1 hzv1 => ?_)
  replace h := h zv1 hzv1
  refine j_istore_n dX10_hearTold_4 (by decide) rfl ?_
  refine j_sub [1, 0] rfl ?_
  obtain ⟨n, h⟩ := h
  exact k_X10_hearTold_p5 h0 h1b h2 n _ _ _ h
def w_X10_makeOffers_p57_b (b : Nat) (post : am_I → am_N → Prop) (zk12 : Int32 → Int32 → Int32 → am_I → am_N → Prop) (zk57 : Int32 → Int32 → Int32 → Int32 → Int32 → am_I → am_N → Prop) (l1 : Int32) (l2 : Int32) (l3 : Int32) (l4 : Int32) (l5 : Int32) (M : am_I) (N : am_N) : Prop :=
  ((8 ≤ l5 → w_X10_cheapest b l4 l3 M N (fun zr1 zM2 zN3 => ((zr1 < 0 → zk12 l1 (l2 ||| l4) (l3 + 1) zM2 zN3) ∧ (¬ zr1 < 0 → w_X10_takeOn b zr1 l3 zM2 zN3 (fun zM4 zN5 => ∀ zv6 : Int32, zv6 = l1 &&& (((1 : Int32) <<< (zr1 &&& 31)) ^^^ (-1)) → zk12 zv6 (l2 ||| l4) (l3 + 1) zM4 zN5))))) ∧ (¬ 8 ≤ l5 → ((((l4 &&& (l2 ^^^ (-1))) &&& ((1 : Int32) <<< (l5 &&& 31))) = 0 → zk57 l1 l2 l3 l4 (l5 + 1) M N) ∧ (¬ ((l4 &&& (l2 ^^^ (-1))) &&& ((1 : Int32) <<< (l5 &&& 31))) = 0 → w_X5_search b l5 (M (1, b, 22) 0) M N (fun zM7 zN8 => zk57 l1 l2 l3 l4 (l5 + 1) zM7 zN8)))))
noncomputable def w_X10_makeOffers_p57 (b : Nat) (post : am_I → am_N → Prop) (zk12 : Int32 → Int32 → Int32 → am_I → am_N → Prop) (n : Nat) : Int32 → Int32 → Int32 → Int32 → Int32 → am_I → am_N → Prop :=
  Nat.rec (motive := fun _ => Int32 → Int32 → Int32 → Int32 → Int32 → am_I → am_N → Prop) (fun _ _ _ _ _ _ _ => False) (fun _ zk => w_X10_makeOffers_p57_b b post zk12 zk) n
theorem w_X10_makeOffers_p57_s (b : Nat) (post : am_I → am_N → Prop) (zk12 : Int32 → Int32 → Int32 → am_I → am_N → Prop) (n : Nat) (l1 : Int32) (l2 : Int32) (l3 : Int32) (l4 : Int32) (l5 : Int32) (M : am_I) (N : am_N) : w_X10_makeOffers_p57 b post zk12 (n + 1) l1 l2 l3 l4 l5 M N = w_X10_makeOffers_p57_b b post zk12 (w_X10_makeOffers_p57 b post zk12 n) l1 l2 l3 l4 l5 M N := rfl
set_option maxRecDepth 10000 in
theorem k_X10_makeOffers_p57 {d : Nat} {dm : List am_C} {b : Nat} (h0 : am_d0 dm) (h1b : am_d1 dm b) (h2 : am_d2 dm) {post : am_I → am_N → Prop} {zk12 : Int32 → Int32 → Int32 → am_I → am_N → Prop} (zhk12 : ∀ (l1 : Int32) (l2 : Int32) (l3 : Int32) (M : am_I) (N : am_N), zk12 l1 l2 l3 M N → jg (d + 5) mX10_makeOffers dm 12 [(0, .inr (.inr (1, b, 0))), (1, .inl l1), (2, .inl l2), (3, .inl l3)] [] M N (am_pv post)) : ∀ (n : Nat) (l1 : Int32) (l2 : Int32) (l3 : Int32) (l4 : Int32) (l5 : Int32) (M : am_I) (N : am_N), w_X10_makeOffers_p57 b post zk12 n l1 l2 l3 l4 l5 M N → jg (d + 5) mX10_makeOffers dm 57 [(0, .inr (.inr (1, b, 0))), (1, .inl l1), (2, .inl l2), (3, .inl l3), (4, .inl l4), (5, .inl l5)] [] M N (am_pv post) := by
  intro n
  induction n with
  | zero => intro l1 l2 l3 l4 l5 M N h; exact h.elim
  | succ n zih =>
    intro l1 l2 l3 l4 l5 M N h
    replace h : w_X10_makeOffers_p57_b b post zk12 (w_X10_makeOffers_p57 b post zk12 n) l1 l2 l3 l4 l5 M N := h
    refine j_iload 5 dX10_makeOffers_57 rfl ?_
    refine j_bipush (v := 8) dX10_makeOffers_59 (by decide) ?_
    refine j_icmp_ge (tgt := 114) dX10_makeOffers_61 (by decide) (fun hc => ?_) (fun hc => ?_)
    · replace h := h.1 hc
      refine j_iload_n 2 dX10_makeOffers_114 rfl ?_
      refine j_iload 4 dX10_makeOffers_115 rfl ?_
      refine j_ior dX10_makeOffers_117 ?_
      refine j_istore_n dX10_makeOffers_118 (by decide) rfl ?_
      refine j_aload_n 1 dX10_makeOffers_119 rfl ?_
      refine j_iload 4 dX10_makeOffers_120 rfl ?_
      refine j_iload_n 3 dX10_makeOffers_122 rfl ?_
      refine j_invV (As := [.inl l4, .inl l3]) dX10_makeOffers_123 msRX10_198 mbX10_cheapest rfl rfl (Nat.le_of_ble_eq_true rfl) (Nat.le_of_ble_eq_true rfl) (by omega) (h1b 0 (by decide)) rfl rfl (k_X10_cheapest (d := d + 0) h0 h1b h2 h) ?_
      rintro _ zM2 zN3 ⟨zr1, rfl, h⟩
      refine j_istore dX10_makeOffers_126 (by decide) rfl ?_
      refine j_iload 0 dX10_makeOffers_128 rfl ?_
      refine j_if_lt (tgt := 149) dX10_makeOffers_130 (by decide) (fun hc => ?_) (fun hc => ?_)
      · replace h := h.1 hc
        refine j_iinc 4 dX10_makeOffers_149 rfl rfl (by decide) rfl ?_
        refine j_goto (tgt := 12) dX10_makeOffers_152 (by decide) ?_
        refine j_sub [3, 4, 2, 0] rfl ?_
        exact zhk12 _ _ _ _ _ h
      · replace h := h.2 hc
        refine j_aload_n 2 dX10_makeOffers_133 rfl ?_
        refine j_iload 0 dX10_makeOffers_134 rfl ?_
        refine j_iload_n 4 dX10_makeOffers_136 rfl ?_
        refine j_invV (As := [.inl zr1, .inl l3]) dX10_makeOffers_137 msRX10_201 mbX10_takeOn rfl rfl (Nat.le_of_ble_eq_true rfl) (Nat.le_of_ble_eq_true rfl) (by omega) (h1b 0 (by decide)) rfl rfl (k_X10_takeOn (d := d + 3) h1b h) ?_
        rintro _ zM4 zN5 ⟨rfl, h⟩
        refine j_iload_n 3 dX10_makeOffers_140 rfl ?_
        refine j_iconst (v := 1) dX10_makeOffers_141 (by decide) ?_
        refine j_iload 0 dX10_makeOffers_142 rfl ?_
        refine j_ishl dX10_makeOffers_144 ?_
        refine j_iconst (v := (-1)) dX10_makeOffers_145 (by decide) ?_
        refine j_ixor dX10_makeOffers_146 ?_
        refine j_iand dX10_makeOffers_147 ?_
        refine j_topi (fun zv6 hzv6 => ?_)
        replace h := h zv6 hzv6
        refine j_istore_n dX10_makeOffers_148 (by decide) rfl ?_
        refine j_iinc 4 dX10_makeOffers_149 rfl rfl (by decide) rfl ?_
        refine j_goto (tgt := 12) dX10_makeOffers_152 (by decide) ?_
        refine j_sub [4, 1, 3, 0] rfl ?_
        exact zhk12 _ _ _ _ _ h
    · replace h := h.2 hc
      refine j_iload 4 dX10_makeOffers_64 rfl ?_
      refine j_iload_n 2 dX10_makeOffers_66 rfl ?_
      refine j_iconst (v := (-1)) dX10_makeOffers_67 (by decide) ?_
      refine j_ixor dX10_makeOffers_68 ?_
      refine j_iand dX10_makeOffers_69 ?_
      refine j_iconst (v := 1) dX10_makeOffers_70 (by decide) ?_
      refine j_iload 5 dX10_makeOffers_71 rfl ?_
      refine j_ishl dX10_makeOffers_73 ?_
      refine j_iand dX10_makeOffers_74 ?_
      refine j_if_eq (tgt := 108) dX10_makeOffers_75 (by decide) (fun hc => ?_) (fun hc => ?_)
      · replace h := h.1 hc
        refine j_iinc 5 dX10_makeOffers_108 rfl rfl (by decide) rfl ?_
        refine j_goto (tgt := 57) dX10_makeOffers_111 (by decide) ?_
        refine j_sub [1, 2, 3, 4, 5, 0] rfl ?_
        exact zih _ _ _ _ _ _ _ h
      · replace h := h.2 hc
        refine j_aload_n 0 dX10_makeOffers_78 rfl ?_
        refine j_getR (b := (0, 0, 2)) dX10_makeOffers_79 fsRX10_25 (h1b 0 (by decide)) rfl rfl ?_
        refine j_iload 5 dX10_makeOffers_82 rfl ?_
        refine j_aload_n 0 dX10_makeOffers_84 rfl ?_
        refine j_getR (b := (0, 0, 1)) dX10_makeOffers_85 fsRX10_21 (h1b 0 (by decide)) rfl rfl ?_
        refine j_getR (b := (2, 2, 0)) dX10_makeOffers_88 fsRX10_189 (h0 1 (by decide)) rfl rfl ?_
        refine j_aload_n 0 dX10_makeOffers_91 rfl ?_
        refine j_getR (b := (1, b, 14)) dX10_makeOffers_92 fsRX10_48 (h1b 0 (by decide)) rfl rfl ?_
        refine j_aload_n 0 dX10_makeOffers_95 rfl ?_
        refine j_getR (b := (1, b, 1)) dX10_makeOffers_96 fsRX10_32 (h1b 0 (by decide)) rfl rfl ?_
        refine j_aload_n 0 dX10_makeOffers_99 rfl ?_
        refine j_getR (b := (1, b, 22)) dX10_makeOffers_100 fsRX10_18 (h1b 0 (by decide)) rfl rfl ?_
        refine j_iconst (v := 0) dX10_makeOffers_103 (by decide) ?_
        refine j_iald dX10_makeOffers_104 (h1b 22 (by decide)) rfl (by unfold vp_in; decide) ?_
        refine j_invV (As := [.inl l5, .inr (.inr (2, 2, 0)), .inr (.inr (1, b, 14)), .inr (.inr (1, b, 1)), .inl (M (1, b, 22) 0)]) dX10_makeOffers_105 msRX10_192 mbX5_search rfl rfl (Nat.le_of_ble_eq_true rfl) (Nat.le_of_ble_eq_true rfl) (by omega) (h0 2 (by decide)) rfl rfl (k_X5_search (d := d + 1) h0 h1b h2 h) ?_
        rintro _ zM7 zN8 ⟨rfl, h⟩
        refine j_iinc 5 dX10_makeOffers_108 rfl rfl (by decide) rfl ?_
        refine j_goto (tgt := 57) dX10_makeOffers_111 (by decide) ?_
        refine j_sub [1, 2, 3, 4, 5, 0] rfl ?_
        exact zih _ _ _ _ _ _ _ h
def w_X10_makeOffers_p12_b (b : Nat) (post : am_I → am_N → Prop) (zk12 : Int32 → Int32 → Int32 → am_I → am_N → Prop) (l1 : Int32) (l2 : Int32) (l3 : Int32) (M : am_I) (N : am_N) : Prop :=
  ((60 ≤ l3 → post M N) ∧ (¬ 60 ≤ l3 → ((l1 = 0 → post M N) ∧ (¬ l1 = 0 → vp_in l3 60 ∧ (((M (1, b, 20) l3.toNatClampNeg) = 0 → w_X9_at 3 l3 0 M N (fun zr1 zM2 zN3 => w_X10_ofKind b zr1 zM2 zN3 (fun zr4 zM5 zN6 => ∃ n, w_X10_makeOffers_p57 b post zk12 n l1 l2 l3 (l1 &&& zr4) 0 zM5 zN6))) ∧ (¬ (M (1, b, 20) l3.toNatClampNeg) = 0 → zk12 l1 l2 (l3 + 1) M N))))))
noncomputable def w_X10_makeOffers_p12 (b : Nat) (post : am_I → am_N → Prop) (n : Nat) : Int32 → Int32 → Int32 → am_I → am_N → Prop :=
  Nat.rec (motive := fun _ => Int32 → Int32 → Int32 → am_I → am_N → Prop) (fun _ _ _ _ _ => False) (fun _ zk => w_X10_makeOffers_p12_b b post zk) n
theorem w_X10_makeOffers_p12_s (b : Nat) (post : am_I → am_N → Prop) (n : Nat) (l1 : Int32) (l2 : Int32) (l3 : Int32) (M : am_I) (N : am_N) : w_X10_makeOffers_p12 b post (n + 1) l1 l2 l3 M N = w_X10_makeOffers_p12_b b post (w_X10_makeOffers_p12 b post n) l1 l2 l3 M N := rfl
set_option maxRecDepth 10000 in
theorem k_X10_makeOffers_p12 {d : Nat} {dm : List am_C} {b : Nat} (h0 : am_d0 dm) (h1b : am_d1 dm b) (h2 : am_d2 dm) {post : am_I → am_N → Prop} : ∀ (n : Nat) (l1 : Int32) (l2 : Int32) (l3 : Int32) (M : am_I) (N : am_N), w_X10_makeOffers_p12 b post n l1 l2 l3 M N → jg (d + 5) mX10_makeOffers dm 12 [(0, .inr (.inr (1, b, 0))), (1, .inl l1), (2, .inl l2), (3, .inl l3)] [] M N (am_pv post) := by
  intro n
  induction n with
  | zero => intro l1 l2 l3 M N h; exact h.elim
  | succ n zih =>
    intro l1 l2 l3 M N h
    replace h : w_X10_makeOffers_p12_b b post (w_X10_makeOffers_p12 b post n) l1 l2 l3 M N := h
    refine j_iload_n 3 dX10_makeOffers_12 rfl ?_
    refine j_bipush (v := 60) dX10_makeOffers_13 (by decide) ?_
    refine j_icmp_ge (tgt := 155) dX10_makeOffers_15 (by decide) (fun hc => ?_) (fun hc => ?_)
    · replace h := h.1 hc
      exact j_vret dX10_makeOffers_155 rfl ⟨rfl, h⟩
    · replace h := h.2 hc
      refine j_iload_n 1 dX10_makeOffers_18 rfl ?_
      refine j_if_eq (tgt := 155) dX10_makeOffers_19 (by decide) (fun hc => ?_) (fun hc => ?_)
      · replace h := h.1 hc
        exact j_vret dX10_makeOffers_155 rfl ⟨rfl, h⟩
      · replace h := h.2 hc
        refine j_aload_n 0 dX10_makeOffers_22 rfl ?_
        refine j_getR (b := (1, b, 20)) dX10_makeOffers_23 fsRX10_9 (h1b 0 (by decide)) rfl rfl ?_
        refine j_iload_n 3 dX10_makeOffers_26 rfl ?_
        obtain ⟨hq, h⟩ := h
        refine j_iald dX10_makeOffers_27 (h1b 20 (by decide)) rfl hq ?_
        refine j_if_eq (tgt := 34) dX10_makeOffers_28 (by decide) (fun hc => ?_) (fun hc => ?_)
        · replace h := h.1 hc
          refine j_iload_n 1 dX10_makeOffers_34 rfl ?_
          refine j_aload_n 0 dX10_makeOffers_35 rfl ?_
          refine j_aload_n 0 dX10_makeOffers_36 rfl ?_
          refine j_getR (b := (0, 0, 1)) dX10_makeOffers_37 fsRX10_21 (h1b 0 (by decide)) rfl rfl ?_
          refine j_getR (b := (2, 3, 0)) dX10_makeOffers_40 fsRX10_182 (h0 1 (by decide)) rfl rfl ?_
          refine j_iload_n 3 dX10_makeOffers_43 rfl ?_
          refine j_iconst (v := 0) dX10_makeOffers_44 (by decide) ?_
          refine j_invV (As := [.inl l3, .inl 0]) dX10_makeOffers_45 msRX10_102 mbX9_at rfl rfl (Nat.le_of_ble_eq_true rfl) (Nat.le_of_ble_eq_true rfl) (by omega) (h2 3 (by decide) 0 (by decide)) rfl rfl (k_X9_at (d := d + 3) h2 (by decide) h) ?_
          rintro _ zM2 zN3 ⟨zr1, rfl, h⟩
          refine j_invV (As := [.inl zr1]) dX10_makeOffers_48 msRX10_185 mbX10_ofKind rfl rfl (Nat.le_of_ble_eq_true rfl) (Nat.le_of_ble_eq_true rfl) (by omega) (h1b 0 (by decide)) rfl rfl (k_X10_ofKind (d := d + 2) h0 h1b h2 h) ?_
          rintro _ zM5 zN6 ⟨zr4, rfl, h⟩
          refine j_iand dX10_makeOffers_51 ?_
          refine j_istore dX10_makeOffers_52 (by decide) rfl ?_
          refine j_iconst (v := 0) dX10_makeOffers_54 (by decide) ?_
          refine j_istore dX10_makeOffers_55 (by decide) rfl ?_
          refine j_sub [2, 3, 4, 5, 1, 0] rfl ?_
          obtain ⟨n, h⟩ := h
          exact k_X10_makeOffers_p57 h0 h1b h2 zih n _ _ _ _ _ _ _ h
        · replace h := h.2 hc
          refine j_goto (tgt := 149) dX10_makeOffers_31 (by decide) ?_
          refine j_iinc 3 dX10_makeOffers_149 rfl rfl (by decide) rfl ?_
          refine j_goto (tgt := 12) dX10_makeOffers_152 (by decide) ?_
          refine j_sub [1, 2, 3, 0] rfl ?_
          exact zih _ _ _ _ _ h
def w_X10_makeOffers (b : Nat) (M : am_I) (N : am_N) (post : am_I → am_N → Prop) : Prop :=
  w_X1_readyOnes b M N (fun zr1 zM2 zN3 => ∃ n, w_X10_makeOffers_p12 b post n zr1 0 0 zM2 zN3)
set_option maxRecDepth 10000 in
theorem k_X10_makeOffers {d : Nat} {dm : List am_C} {b : Nat} (h0 : am_d0 dm) (h1b : am_d1 dm b) (h2 : am_d2 dm) {M : am_I} {N : am_N} {post : am_I → am_N → Prop} (h : w_X10_makeOffers b M N post) : jg (d + 5) mX10_makeOffers dm 0 [(0, .inr (.inr (1, b, 0)))] [] M N (am_pv post) := by
  refine j_aload_n 0 dX10_makeOffers_0 rfl ?_
  refine j_getR (b := (1, b, 14)) dX10_makeOffers_1 fsRX10_48 (h1b 0 (by decide)) rfl rfl ?_
  refine j_invV (As := []) dX10_makeOffers_4 msRX10_178 mbX1_readyOnes rfl rfl (Nat.le_of_ble_eq_true rfl) (Nat.le_of_ble_eq_true rfl) (by omega) (h1b 14 (by decide)) rfl rfl (k_X1_readyOnes (d := d + 0) h0 h1b h2 h) ?_
  rintro _ zM2 zN3 ⟨zr1, rfl, h⟩
  refine j_istore_n dX10_makeOffers_7 (by decide) rfl ?_
  refine j_iconst (v := 0) dX10_makeOffers_8 (by decide) ?_
  refine j_istore_n dX10_makeOffers_9 (by decide) rfl ?_
  refine j_iconst (v := 0) dX10_makeOffers_10 (by decide) ?_
  refine j_istore_n dX10_makeOffers_11 (by decide) rfl ?_
  refine j_sub [3, 2, 1, 0] rfl ?_
  obtain ⟨n, h⟩ := h
  exact k_X10_makeOffers_p12 h0 h1b h2 n _ _ _ _ _ h
def w_X10_takeTurn_p55 (b : Nat) (post : am_I → am_N → Prop) (l1 : Int32) (M : am_I) (N : am_N) : Prop :=
  vp_in l1 8 ∧ ((¬ (M (1, b, 17) l1.toNatClampNeg) = 1 → vp_in l1 8 ∧ ((¬ (M (1, b, 17) l1.toNatClampNeg) = 2 → post M N) ∧ ((M (1, b, 17) l1.toNatClampNeg) = 2 → w_X1_isHome b l1 M N (fun zr1 zM2 zN3 => ((zr1 = 0 → w_X10_move b l1 zM2 zN3 (fun zM4 zN5 => post zM4 zN5)) ∧ (¬ zr1 = 0 → w_X1_plugIn b l1 zM2 zN3 (fun zM6 zN7 => post zM6 zN7))))))) ∧ ((M (1, b, 17) l1.toNatClampNeg) = 1 → vp_in l1 8 ∧ w_X10_isAtWork b l1 (M (1, b, 18) l1.toNatClampNeg) M N (fun zr8 zM9 zN10 => ((zr8 = 0 → w_X10_move b l1 zM9 zN10 (fun zM11 zN12 => post zM11 zN12)) ∧ (¬ zr8 = 0 → vp_in l1 8 ∧ w_X10_doWork b l1 (zM9 (1, b, 18) l1.toNatClampNeg) zM9 zN10 (fun zM13 zN14 => post zM13 zN14))))))
set_option maxRecDepth 10000 in
theorem k_X10_takeTurn_p55 {d : Nat} {dm : List am_C} {b : Nat} (h0 : am_d0 dm) (h1b : am_d1 dm b) (h2 : am_d2 dm) {post : am_I → am_N → Prop} (l1 : Int32) (M : am_I) (N : am_N) (h : w_X10_takeTurn_p55 b post l1 M N) : jg (d + 5) mX10_takeTurn dm 55 [(0, .inr (.inr (1, b, 0))), (1, .inl l1)] [] M N (am_pv post) := by
  refine j_aload_n 0 dX10_takeTurn_55 rfl ?_
  refine j_getR (b := (1, b, 14)) dX10_takeTurn_56 fsRX10_48 (h1b 0 (by decide)) rfl rfl ?_
  refine j_getR (b := (1, b, 17)) dX10_takeTurn_59 fsRX10_219 (h1b 14 (by decide)) rfl rfl ?_
  refine j_iload_n 1 dX10_takeTurn_62 rfl ?_
  obtain ⟨hq, h⟩ := h
  refine j_iald dX10_takeTurn_63 (h1b 17 (by decide)) rfl hq ?_
  refine j_iconst (v := 1) dX10_takeTurn_64 (by decide) ?_
  refine j_icmp_ne (tgt := 110) dX10_takeTurn_65 (by decide) (fun hc => ?_) (fun hc => ?_)
  · replace h := h.1 hc
    refine j_aload_n 0 dX10_takeTurn_110 rfl ?_
    refine j_getR (b := (1, b, 14)) dX10_takeTurn_111 fsRX10_48 (h1b 0 (by decide)) rfl rfl ?_
    refine j_getR (b := (1, b, 17)) dX10_takeTurn_114 fsRX10_219 (h1b 14 (by decide)) rfl rfl ?_
    refine j_iload_n 1 dX10_takeTurn_117 rfl ?_
    obtain ⟨hq, h⟩ := h
    refine j_iald dX10_takeTurn_118 (h1b 17 (by decide)) rfl hq ?_
    refine j_iconst (v := 2) dX10_takeTurn_119 (by decide) ?_
    refine j_icmp_ne (tgt := 150) dX10_takeTurn_120 (by decide) (fun hc => ?_) (fun hc => ?_)
    · replace h := h.1 hc
      exact j_vret dX10_takeTurn_150 rfl ⟨rfl, h⟩
    · replace h := h.2 hc
      refine j_aload_n 0 dX10_takeTurn_123 rfl ?_
      refine j_getR (b := (1, b, 14)) dX10_takeTurn_124 fsRX10_48 (h1b 0 (by decide)) rfl rfl ?_
      refine j_iload_n 1 dX10_takeTurn_127 rfl ?_
      refine j_invV (As := [.inl l1]) dX10_takeTurn_128 msRX10_238 mbX1_isHome rfl rfl (Nat.le_of_ble_eq_true rfl) (Nat.le_of_ble_eq_true rfl) (by omega) (h1b 14 (by decide)) rfl rfl (k_X1_isHome (d := d + 2) h0 h1b h2 h) ?_
      rintro _ zM2 zN3 ⟨zr1, rfl, h⟩
      refine j_if_eq (tgt := 145) dX10_takeTurn_131 (by decide) (fun hc => ?_) (fun hc => ?_)
      · replace h := h.1 hc
        refine j_aload_n 0 dX10_takeTurn_145 rfl ?_
        refine j_iload_n 1 dX10_takeTurn_146 rfl ?_
        refine j_invV (As := [.inl l1]) dX10_takeTurn_147 msRX10_235 mbX10_move rfl rfl (Nat.le_of_ble_eq_true rfl) (Nat.le_of_ble_eq_true rfl) (by omega) (h1b 0 (by decide)) rfl rfl (k_X10_move (d := d + 0) h0 h1b h2 h) ?_
        rintro _ zM4 zN5 ⟨rfl, h⟩
        exact j_vret dX10_takeTurn_150 rfl ⟨rfl, h⟩
      · replace h := h.2 hc
        refine j_aload_n 0 dX10_takeTurn_134 rfl ?_
        refine j_getR (b := (1, b, 14)) dX10_takeTurn_135 fsRX10_48 (h1b 0 (by decide)) rfl rfl ?_
        refine j_iload_n 1 dX10_takeTurn_138 rfl ?_
        refine j_invV (As := [.inl l1]) dX10_takeTurn_139 msRX10_222 mbX1_plugIn rfl rfl (Nat.le_of_ble_eq_true rfl) (Nat.le_of_ble_eq_true rfl) (by omega) (h1b 14 (by decide)) rfl rfl (k_X1_plugIn (d := d + 2) h0 h1b h2 h) ?_
        rintro _ zM6 zN7 ⟨rfl, h⟩
        refine j_goto (tgt := 150) dX10_takeTurn_142 (by decide) ?_
        exact j_vret dX10_takeTurn_150 rfl ⟨rfl, h⟩
  · replace h := h.2 hc
    refine j_aload_n 0 dX10_takeTurn_68 rfl ?_
    refine j_iload_n 1 dX10_takeTurn_69 rfl ?_
    refine j_aload_n 0 dX10_takeTurn_70 rfl ?_
    refine j_getR (b := (1, b, 14)) dX10_takeTurn_71 fsRX10_48 (h1b 0 (by decide)) rfl rfl ?_
    refine j_getR (b := (1, b, 18)) dX10_takeTurn_74 fsRX10_216 (h1b 14 (by decide)) rfl rfl ?_
    refine j_iload_n 1 dX10_takeTurn_77 rfl ?_
    obtain ⟨hq, h⟩ := h
    refine j_iald dX10_takeTurn_78 (h1b 18 (by decide)) rfl hq ?_
    refine j_invV (As := [.inl l1, .inl (M (1, b, 18) l1.toNatClampNeg)]) dX10_takeTurn_79 msRX10_229 mbX10_isAtWork rfl rfl (Nat.le_of_ble_eq_true rfl) (Nat.le_of_ble_eq_true rfl) (by omega) (h1b 0 (by decide)) rfl rfl (k_X10_isAtWork (d := d + 1) h0 h1b h2 h) ?_
    rintro _ zM9 zN10 ⟨zr8, rfl, h⟩
    refine j_if_eq (tgt := 102) dX10_takeTurn_82 (by decide) (fun hc => ?_) (fun hc => ?_)
    · replace h := h.1 hc
      refine j_aload_n 0 dX10_takeTurn_102 rfl ?_
      refine j_iload_n 1 dX10_takeTurn_103 rfl ?_
      refine j_invV (As := [.inl l1]) dX10_takeTurn_104 msRX10_235 mbX10_move rfl rfl (Nat.le_of_ble_eq_true rfl) (Nat.le_of_ble_eq_true rfl) (by omega) (h1b 0 (by decide)) rfl rfl (k_X10_move (d := d + 0) h0 h1b h2 h) ?_
      rintro _ zM11 zN12 ⟨rfl, h⟩
      refine j_goto (tgt := 150) dX10_takeTurn_107 (by decide) ?_
      exact j_vret dX10_takeTurn_150 rfl ⟨rfl, h⟩
    · replace h := h.2 hc
      refine j_aload_n 0 dX10_takeTurn_85 rfl ?_
      refine j_iload_n 1 dX10_takeTurn_86 rfl ?_
      refine j_aload_n 0 dX10_takeTurn_87 rfl ?_
      refine j_getR (b := (1, b, 14)) dX10_takeTurn_88 fsRX10_48 (h1b 0 (by decide)) rfl rfl ?_
      refine j_getR (b := (1, b, 18)) dX10_takeTurn_91 fsRX10_216 (h1b 14 (by decide)) rfl rfl ?_
      refine j_iload_n 1 dX10_takeTurn_94 rfl ?_
      obtain ⟨hq, h⟩ := h
      refine j_iald dX10_takeTurn_95 (h1b 18 (by decide)) rfl hq ?_
      refine j_invV (As := [.inl l1, .inl (zM9 (1, b, 18) l1.toNatClampNeg)]) dX10_takeTurn_96 msRX10_232 mbX10_doWork rfl rfl (Nat.le_of_ble_eq_true rfl) (Nat.le_of_ble_eq_true rfl) (by omega) (h1b 0 (by decide)) rfl rfl (k_X10_doWork (d := d + 0) h0 h1b h2 h) ?_
      rintro _ zM13 zN14 ⟨rfl, h⟩
      refine j_goto (tgt := 150) dX10_takeTurn_99 (by decide) ?_
      exact j_vret dX10_takeTurn_150 rfl ⟨rfl, h⟩
def w_X10_takeTurn (b : Nat) (a1 : Int32) (M : am_I) (N : am_N) (post : am_I → am_N → Prop) : Prop :=
  vp_in a1 8 ∧ ((¬ (M (1, b, 17) a1.toNatClampNeg) = 3 → vp_in a1 8 ∧ ((¬ (M (1, b, 17) a1.toNatClampNeg) = 0 → w_X10_takeTurn_p55 b post a1 M N) ∧ ((M (1, b, 17) a1.toNatClampNeg) = 0 → w_X1_hasPower b a1 M N (fun zr1 zM2 zN3 => ((¬ zr1 = 0 → w_X10_takeTurn_p55 b post a1 zM2 zN3) ∧ (zr1 = 0 → vp_in a1 8 ∧ w_X10_takeTurn_p55 b post a1 (am_u zM2 (1, b, 17) a1.toNatClampNeg 2) zN3)))))) ∧ ((M (1, b, 17) a1.toNatClampNeg) = 3 → w_X1_plugIn b a1 M N (fun zM4 zN5 => post zM4 zN5)))
set_option maxRecDepth 10000 in
theorem k_X10_takeTurn {d : Nat} {dm : List am_C} {b : Nat} (h0 : am_d0 dm) (h1b : am_d1 dm b) (h2 : am_d2 dm) {a1 : Int32} {M : am_I} {N : am_N} {post : am_I → am_N → Prop} (h : w_X10_takeTurn b a1 M N post) : jg (d + 5) mX10_takeTurn dm 0 [(0, .inr (.inr (1, b, 0))), (1, .inl a1)] [] M N (am_pv post) := by
  refine j_aload_n 0 dX10_takeTurn_0 rfl ?_
  refine j_getR (b := (1, b, 14)) dX10_takeTurn_1 fsRX10_48 (h1b 0 (by decide)) rfl rfl ?_
  refine j_getR (b := (1, b, 17)) dX10_takeTurn_4 fsRX10_219 (h1b 14 (by decide)) rfl rfl ?_
  refine j_iload_n 1 dX10_takeTurn_7 rfl ?_
  obtain ⟨hq, h⟩ := h
  refine j_iald dX10_takeTurn_8 (h1b 17 (by decide)) rfl hq ?_
  refine j_iconst (v := 3) dX10_takeTurn_9 (by decide) ?_
  refine j_icmp_ne (tgt := 22) dX10_takeTurn_10 (by decide) (fun hc => ?_) (fun hc => ?_)
  · replace h := h.1 hc
    refine j_aload_n 0 dX10_takeTurn_22 rfl ?_
    refine j_getR (b := (1, b, 14)) dX10_takeTurn_23 fsRX10_48 (h1b 0 (by decide)) rfl rfl ?_
    refine j_getR (b := (1, b, 17)) dX10_takeTurn_26 fsRX10_219 (h1b 14 (by decide)) rfl rfl ?_
    refine j_iload_n 1 dX10_takeTurn_29 rfl ?_
    obtain ⟨hq, h⟩ := h
    refine j_iald dX10_takeTurn_30 (h1b 17 (by decide)) rfl hq ?_
    refine j_if_ne (tgt := 55) dX10_takeTurn_31 (by decide) (fun hc => ?_) (fun hc => ?_)
    · replace h := h.1 hc
      refine j_sub [0, 1] rfl ?_
      exact k_X10_takeTurn_p55 h0 h1b h2 _ _ _ h
    · replace h := h.2 hc
      refine j_aload_n 0 dX10_takeTurn_34 rfl ?_
      refine j_getR (b := (1, b, 14)) dX10_takeTurn_35 fsRX10_48 (h1b 0 (by decide)) rfl rfl ?_
      refine j_iload_n 1 dX10_takeTurn_38 rfl ?_
      refine j_invV (As := [.inl a1]) dX10_takeTurn_39 msRX10_225 mbX1_hasPower rfl rfl (Nat.le_of_ble_eq_true rfl) (Nat.le_of_ble_eq_true rfl) (by omega) (h1b 14 (by decide)) rfl rfl (k_X1_hasPower (d := d + 2) h0 h1b h2 h) ?_
      rintro _ zM2 zN3 ⟨zr1, rfl, h⟩
      refine j_if_ne (tgt := 55) dX10_takeTurn_42 (by decide) (fun hc => ?_) (fun hc => ?_)
      · replace h := h.1 hc
        refine j_sub [0, 1] rfl ?_
        exact k_X10_takeTurn_p55 h0 h1b h2 _ _ _ h
      · replace h := h.2 hc
        refine j_aload_n 0 dX10_takeTurn_45 rfl ?_
        refine j_getR (b := (1, b, 14)) dX10_takeTurn_46 fsRX10_48 (h1b 0 (by decide)) rfl rfl ?_
        refine j_getR (b := (1, b, 17)) dX10_takeTurn_49 fsRX10_219 (h1b 14 (by decide)) rfl rfl ?_
        refine j_iload_n 1 dX10_takeTurn_52 rfl ?_
        refine j_iconst (v := 2) dX10_takeTurn_53 (by decide) ?_
        obtain ⟨hq, h⟩ := h
        refine j_iast dX10_takeTurn_54 (h1b 17 (by decide)) rfl hq ?_
        refine j_sub [0, 1] rfl ?_
        exact k_X10_takeTurn_p55 h0 h1b h2 _ _ _ h
  · replace h := h.2 hc
    refine j_aload_n 0 dX10_takeTurn_13 rfl ?_
    refine j_getR (b := (1, b, 14)) dX10_takeTurn_14 fsRX10_48 (h1b 0 (by decide)) rfl rfl ?_
    refine j_iload_n 1 dX10_takeTurn_17 rfl ?_
    refine j_invV (As := [.inl a1]) dX10_takeTurn_18 msRX10_222 mbX1_plugIn rfl rfl (Nat.le_of_ble_eq_true rfl) (Nat.le_of_ble_eq_true rfl) (by omega) (h1b 14 (by decide)) rfl rfl (k_X1_plugIn (d := d + 2) h0 h1b h2 h) ?_
    rintro _ zM4 zN5 ⟨rfl, h⟩
    exact j_vret dX10_takeTurn_21 rfl ⟨rfl, h⟩
def w_X10_passHour_p63_b (b : Nat) (post : am_I → am_N → Prop) (zk63 : Int32 → am_I → am_N → Prop) (l1 : Int32) (M : am_I) (N : am_N) : Prop :=
  ((8 ≤ l1 → ((¬ (am_rem (M (1, b, 0) 8) 24) = 0 → post M N) ∧ ((am_rem (M (1, b, 0) 8) 24) = 0 → w_X6_drown b M N (fun zM1 zN2 => w_X6_spread b (zM1 (1, b, 22) 2) (zM1 (1, b, 0) 11) zM1 zN2 (fun zM3 zN4 => w_X6_grow b zM3 zN4 (fun zM5 zN6 => post zM5 zN6)))))) ∧ (¬ 8 ≤ l1 → w_X10_takeTurn b l1 M N (fun zM7 zN8 => zk63 (l1 + 1) zM7 zN8)))
noncomputable def w_X10_passHour_p63 (b : Nat) (post : am_I → am_N → Prop) (n : Nat) : Int32 → am_I → am_N → Prop :=
  Nat.rec (motive := fun _ => Int32 → am_I → am_N → Prop) (fun _ _ _ => False) (fun _ zk => w_X10_passHour_p63_b b post zk) n
theorem w_X10_passHour_p63_s (b : Nat) (post : am_I → am_N → Prop) (n : Nat) (l1 : Int32) (M : am_I) (N : am_N) : w_X10_passHour_p63 b post (n + 1) l1 M N = w_X10_passHour_p63_b b post (w_X10_passHour_p63 b post n) l1 M N := rfl
set_option maxRecDepth 10000 in
theorem k_X10_passHour_p63 {d : Nat} {dm : List am_C} {b : Nat} (h0 : am_d0 dm) (h1b : am_d1 dm b) (h2 : am_d2 dm) {post : am_I → am_N → Prop} : ∀ (n : Nat) (l1 : Int32) (M : am_I) (N : am_N), w_X10_passHour_p63 b post n l1 M N → jg (d + 6) mX10_passHour dm 63 [(0, .inr (.inr (1, b, 0))), (1, .inl l1)] [] M N (am_pv post) := by
  intro n
  induction n with
  | zero => intro l1 M N h; exact h.elim
  | succ n zih =>
    intro l1 M N h
    replace h : w_X10_passHour_p63_b b post (w_X10_passHour_p63 b post n) l1 M N := h
    refine j_iload_n 1 dX10_passHour_63 rfl ?_
    refine j_bipush (v := 8) dX10_passHour_64 (by decide) ?_
    refine j_icmp_ge (tgt := 80) dX10_passHour_66 (by decide) (fun hc => ?_) (fun hc => ?_)
    · replace h := h.1 hc
      refine j_aload_n 0 dX10_passHour_80 rfl ?_
      refine j_getI dX10_passHour_81 fsRX10_66 (h1b 0 (by decide)) rfl ?_
      refine j_bipush (v := 24) dX10_passHour_84 (by decide) ?_
      refine j_irem dX10_passHour_86 (by decide) ?_
      refine j_if_ne (tgt := 129) dX10_passHour_87 (by decide) (fun hc => ?_) (fun hc => ?_)
      · replace h := h.1 hc
        exact j_vret dX10_passHour_129 rfl ⟨rfl, h⟩
      · replace h := h.2 hc
        refine j_aload_n 0 dX10_passHour_90 rfl ?_
        refine j_getR (b := (1, b, 6)) dX10_passHour_91 fsRX10_41 (h1b 0 (by decide)) rfl rfl ?_
        refine j_aload_n 0 dX10_passHour_94 rfl ?_
        refine j_getR (b := (1, b, 1)) dX10_passHour_95 fsRX10_32 (h1b 0 (by decide)) rfl rfl ?_
        refine j_invV (As := [.inr (.inr (1, b, 1))]) dX10_passHour_98 msRX10_168 mbX6_drown rfl rfl (Nat.le_of_ble_eq_true rfl) (Nat.le_of_ble_eq_true rfl) (by omega) (h1b 6 (by decide)) rfl rfl (k_X6_drown (d := d + 1) h1b h) ?_
        rintro _ zM1 zN2 ⟨rfl, h⟩
        refine j_aload_n 0 dX10_passHour_101 rfl ?_
        refine j_getR (b := (1, b, 6)) dX10_passHour_102 fsRX10_41 (h1b 0 (by decide)) rfl rfl ?_
        refine j_aload_n 0 dX10_passHour_105 rfl ?_
        refine j_getR (b := (1, b, 22)) dX10_passHour_106 fsRX10_18 (h1b 0 (by decide)) rfl rfl ?_
        refine j_iconst (v := 2) dX10_passHour_109 (by decide) ?_
        refine j_iald dX10_passHour_110 (h1b 22 (by decide)) rfl (by unfold vp_in; decide) ?_
        refine j_aload_n 0 dX10_passHour_111 rfl ?_
        refine j_getI dX10_passHour_112 fsRX10_76 (h1b 0 (by decide)) rfl ?_
        refine j_invV (As := [.inl (zM1 (1, b, 22) 2), .inl (zM1 (1, b, 0) 11)]) dX10_passHour_115 msRX10_172 mbX6_spread rfl rfl (Nat.le_of_ble_eq_true rfl) (Nat.le_of_ble_eq_true rfl) (by omega) (h1b 6 (by decide)) rfl rfl (k_X6_spread (d := d + 2) h0 h1b h2 h) ?_
        rintro _ zM3 zN4 ⟨rfl, h⟩
        refine j_aload_n 0 dX10_passHour_118 rfl ?_
        refine j_getR (b := (1, b, 6)) dX10_passHour_119 fsRX10_41 (h1b 0 (by decide)) rfl rfl ?_
        refine j_aload_n 0 dX10_passHour_122 rfl ?_
        refine j_getR (b := (1, b, 1)) dX10_passHour_123 fsRX10_32 (h1b 0 (by decide)) rfl rfl ?_
        refine j_invV (As := [.inr (.inr (1, b, 1))]) dX10_passHour_126 msRX10_175 mbX6_grow rfl rfl (Nat.le_of_ble_eq_true rfl) (Nat.le_of_ble_eq_true rfl) (by omega) (h1b 6 (by decide)) rfl rfl (k_X6_grow (d := d + 2) h1b h) ?_
        rintro _ zM5 zN6 ⟨rfl, h⟩
        exact j_vret dX10_passHour_129 rfl ⟨rfl, h⟩
    · replace h := h.2 hc
      refine j_aload_n 0 dX10_passHour_69 rfl ?_
      refine j_iload_n 1 dX10_passHour_70 rfl ?_
      refine j_invV (As := [.inl l1]) dX10_passHour_71 msRX10_165 mbX10_takeTurn rfl rfl (Nat.le_of_ble_eq_true rfl) (Nat.le_of_ble_eq_true rfl) (by omega) (h1b 0 (by decide)) rfl rfl (k_X10_takeTurn (d := d + 0) h0 h1b h2 h) ?_
      rintro _ zM7 zN8 ⟨rfl, h⟩
      refine j_iinc 1 dX10_passHour_74 rfl rfl (by decide) rfl ?_
      refine j_goto (tgt := 63) dX10_passHour_77 (by decide) ?_
      refine j_sub [1, 0] rfl ?_
      exact zih _ _ _ h
def w_X10_passHour_p37 (b : Nat) (post : am_I → am_N → Prop) (s0 : Int32) (s1 : Int32) (M : am_I) (N : am_N) : Prop :=
  w_X0_fallingAt s1 s0 M N (fun zr1 zM2 zN3 => w_X2_rainOn b zr1 zM2 zN3 (fun zM4 zN5 => w_X2_flow b zM4 zN5 (fun zM6 zN7 => w_X2_dry b zM6 zN7 (fun zM8 zN9 => w_X10_makeOffers b zM8 zN9 (fun zM10 zN11 => ∃ n, w_X10_passHour_p63 b post n 0 zM10 zN11)))))
set_option maxRecDepth 10000 in
theorem k_X10_passHour_p37 {d : Nat} {dm : List am_C} {b : Nat} (h0 : am_d0 dm) (h1b : am_d1 dm b) (h2 : am_d2 dm) {post : am_I → am_N → Prop} (s0 : Int32) (s1 : Int32) (M : am_I) (N : am_N) (h : w_X10_passHour_p37 b post s0 s1 M N) : jg (d + 6) mX10_passHour dm 37 [(0, .inr (.inr (1, b, 0)))] [.inl s0, .inl s1, .inr (.inr (0, 0, 1)), .inr (.inr (1, b, 1))] M N (am_pv post) := by
  refine j_invV (As := [.inl s1, .inl s0]) dX10_passHour_37 msRX10_150 mbX0_fallingAt rfl rfl (Nat.le_of_ble_eq_true rfl) (Nat.le_of_ble_eq_true rfl) (by omega) (h0 1 (by decide)) rfl rfl (k_X0_fallingAt (d := d + 3) h0 h2 h) ?_
  rintro _ zM2 zN3 ⟨zr1, rfl, h⟩
  refine j_invV (As := [.inl zr1]) dX10_passHour_40 msRX10_153 mbX2_rainOn rfl rfl (Nat.le_of_ble_eq_true rfl) (Nat.le_of_ble_eq_true rfl) (by omega) (h1b 1 (by decide)) rfl rfl (k_X2_rainOn (d := d + 4) h1b h) ?_
  rintro _ zM4 zN5 ⟨rfl, h⟩
  refine j_aload_n 0 dX10_passHour_43 rfl ?_
  refine j_getR (b := (1, b, 1)) dX10_passHour_44 fsRX10_32 (h1b 0 (by decide)) rfl rfl ?_
  refine j_invV (As := []) dX10_passHour_47 msRX10_156 mbX2_flow rfl rfl (Nat.le_of_ble_eq_true rfl) (Nat.le_of_ble_eq_true rfl) (by omega) (h1b 1 (by decide)) rfl rfl (k_X2_flow (d := d + 2) h1b h) ?_
  rintro _ zM6 zN7 ⟨rfl, h⟩
  refine j_aload_n 0 dX10_passHour_50 rfl ?_
  refine j_getR (b := (1, b, 1)) dX10_passHour_51 fsRX10_32 (h1b 0 (by decide)) rfl rfl ?_
  refine j_invV (As := []) dX10_passHour_54 msRX10_159 mbX2_dry rfl rfl (Nat.le_of_ble_eq_true rfl) (Nat.le_of_ble_eq_true rfl) (by omega) (h1b 1 (by decide)) rfl rfl (k_X2_dry (d := d + 4) h1b h) ?_
  rintro _ zM8 zN9 ⟨rfl, h⟩
  refine j_aload_n 0 dX10_passHour_57 rfl ?_
  refine j_invV (As := []) dX10_passHour_58 msRX10_162 mbX10_makeOffers rfl rfl (Nat.le_of_ble_eq_true rfl) (Nat.le_of_ble_eq_true rfl) (by omega) (h1b 0 (by decide)) rfl rfl (k_X10_makeOffers (d := d + 0) h0 h1b h2 h) ?_
  rintro _ zM10 zN11 ⟨rfl, h⟩
  refine j_iconst (v := 0) dX10_passHour_61 (by decide) ?_
  refine j_istore_n dX10_passHour_62 (by decide) rfl ?_
  refine j_sub [1, 0] rfl ?_
  obtain ⟨n, h⟩ := h
  exact k_X10_passHour_p63 h0 h1b h2 n _ _ _ h
def w_X10_passHour (b : Nat) (M : am_I) (N : am_N) (post : am_I → am_N → Prop) : Prop :=
  ((¬ ((am_u M (1, b, 0) 8 ((M (1, b, 0) 8) + 1)) (1, b, 0) 12) = 0 → w_X10_passHour_p37 b post (-1) ((am_u M (1, b, 0) 8 ((M (1, b, 0) 8) + 1)) (1, b, 0) 8) (am_u M (1, b, 0) 8 ((M (1, b, 0) 8) + 1)) N) ∧ (((am_u M (1, b, 0) 8 ((M (1, b, 0) 8) + 1)) (1, b, 0) 12) = 0 → w_X10_passHour_p37 b post ((am_u M (1, b, 0) 8 ((M (1, b, 0) 8) + 1)) (1, b, 0) 13) ((am_u M (1, b, 0) 8 ((M (1, b, 0) 8) + 1)) (1, b, 0) 8) (am_u M (1, b, 0) 8 ((M (1, b, 0) 8) + 1)) N))
set_option maxRecDepth 10000 in
theorem k_X10_passHour {d : Nat} {dm : List am_C} {b : Nat} (h0 : am_d0 dm) (h1b : am_d1 dm b) (h2 : am_d2 dm) {M : am_I} {N : am_N} {post : am_I → am_N → Prop} (h : w_X10_passHour b M N post) : jg (d + 6) mX10_passHour dm 0 [(0, .inr (.inr (1, b, 0)))] [] M N (am_pv post) := by
  refine j_aload_n 0 dX10_passHour_0 rfl ?_
  refine j_dup dX10_passHour_1 rfl ?_
  refine j_getI dX10_passHour_2 fsRX10_66 (h1b 0 (by decide)) rfl ?_
  refine j_iconst (v := 1) dX10_passHour_5 (by decide) ?_
  refine j_iadd dX10_passHour_6 ?_
  refine j_putI dX10_passHour_7 fwRX10_66 (h1b 0 (by decide)) rfl ?_
  refine j_aload_n 0 dX10_passHour_10 rfl ?_
  refine j_getR (b := (1, b, 1)) dX10_passHour_11 fsRX10_32 (h1b 0 (by decide)) rfl rfl ?_
  refine j_aload_n 0 dX10_passHour_14 rfl ?_
  refine j_getR (b := (0, 0, 1)) dX10_passHour_15 fsRX10_21 (h1b 0 (by decide)) rfl rfl ?_
  refine j_aload_n 0 dX10_passHour_18 rfl ?_
  refine j_getI dX10_passHour_19 fsRX10_66 (h1b 0 (by decide)) rfl ?_
  refine j_aload_n 0 dX10_passHour_22 rfl ?_
  refine j_getI dX10_passHour_23 fsRX10_79 (h1b 0 (by decide)) rfl ?_
  refine j_if_ne (tgt := 36) dX10_passHour_26 (by decide) (fun hc => ?_) (fun hc => ?_)
  · replace h := h.1 hc
    refine j_iconst (v := (-1)) dX10_passHour_36 (by decide) ?_
    refine j_sub [0] rfl ?_
    exact k_X10_passHour_p37 h0 h1b h2 _ _ _ _ h
  · replace h := h.2 hc
    refine j_aload_n 0 dX10_passHour_29 rfl ?_
    refine j_getI dX10_passHour_30 fsRX10_82 (h1b 0 (by decide)) rfl ?_
    refine j_goto (tgt := 37) dX10_passHour_33 (by decide) ?_
    refine j_sub [0] rfl ?_
    exact k_X10_passHour_p37 h0 h1b h2 _ _ _ _ h
def w_X10_playTo_p9_b (b : Nat) (post : am_I → am_N → Prop) (zk9 : Int32 → Int32 → am_I → am_N → Prop) (l1 : Int32) (l2 : Int32) (M : am_I) (N : am_N) : Prop :=
  ((l1 ≤ l2 → post M N) ∧ (¬ l1 ≤ l2 → w_X10_passHour b M N (fun zM1 zN2 => w_X10_hearTold b zM1 zN2 (fun zM3 zN4 => zk9 l1 (l2 + 1) zM3 zN4))))
noncomputable def w_X10_playTo_p9 (b : Nat) (post : am_I → am_N → Prop) (n : Nat) : Int32 → Int32 → am_I → am_N → Prop :=
  Nat.rec (motive := fun _ => Int32 → Int32 → am_I → am_N → Prop) (fun _ _ _ _ => False) (fun _ zk => w_X10_playTo_p9_b b post zk) n
theorem w_X10_playTo_p9_s (b : Nat) (post : am_I → am_N → Prop) (n : Nat) (l1 : Int32) (l2 : Int32) (M : am_I) (N : am_N) : w_X10_playTo_p9 b post (n + 1) l1 l2 M N = w_X10_playTo_p9_b b post (w_X10_playTo_p9 b post n) l1 l2 M N := rfl
set_option maxRecDepth 10000 in
theorem k_X10_playTo_p9 {d : Nat} {dm : List am_C} {b : Nat} (h0 : am_d0 dm) (h1b : am_d1 dm b) (h2 : am_d2 dm) {post : am_I → am_N → Prop} : ∀ (n : Nat) (l1 : Int32) (l2 : Int32) (M : am_I) (N : am_N), w_X10_playTo_p9 b post n l1 l2 M N → jg (d + 7) mX10_playTo dm 9 [(0, .inr (.inr (1, b, 0))), (1, .inl l1), (2, .inl l2)] [] M N (am_pv post) := by
  intro n
  induction n with
  | zero => intro l1 l2 M N h; exact h.elim
  | succ n zih =>
    intro l1 l2 M N h
    replace h : w_X10_playTo_p9_b b post (w_X10_playTo_p9 b post n) l1 l2 M N := h
    refine j_iload_n 2 dX10_playTo_9 rfl ?_
    refine j_iload_n 1 dX10_playTo_10 rfl ?_
    refine j_icmp_ge (tgt := 28) dX10_playTo_11 (by decide) (fun hc => ?_) (fun hc => ?_)
    · replace h := h.1 hc
      exact j_vret dX10_playTo_28 rfl ⟨rfl, h⟩
    · replace h := h.2 hc
      refine j_aload_n 0 dX10_playTo_14 rfl ?_
      refine j_invV (As := []) dX10_playTo_15 msRX10_88 mbX10_passHour rfl rfl (Nat.le_of_ble_eq_true rfl) (Nat.le_of_ble_eq_true rfl) (by omega) (h1b 0 (by decide)) rfl rfl (k_X10_passHour (d := d + 0) h0 h1b h2 h) ?_
      rintro _ zM1 zN2 ⟨rfl, h⟩
      refine j_aload_n 0 dX10_playTo_18 rfl ?_
      refine j_invV (As := []) dX10_playTo_19 msRX10_85 mbX10_hearTold rfl rfl (Nat.le_of_ble_eq_true rfl) (Nat.le_of_ble_eq_true rfl) (by omega) (h1b 0 (by decide)) rfl rfl (k_X10_hearTold (d := d + 1) h0 h1b h2 h) ?_
      rintro _ zM3 zN4 ⟨rfl, h⟩
      refine j_iinc 2 dX10_playTo_22 rfl rfl (by decide) rfl ?_
      refine j_goto (tgt := 9) dX10_playTo_25 (by decide) ?_
      refine j_sub [1, 2, 0] rfl ?_
      exact zih _ _ _ _ h
def w_X10_playTo (b : Nat) (a1 : Int32) (M : am_I) (N : am_N) (post : am_I → am_N → Prop) : Prop :=
  w_X10_hearTold b M N (fun zM1 zN2 => ∀ zv3 : Int32, zv3 = zM1 (1, b, 0) 8 → ∃ n, w_X10_playTo_p9 b post n a1 zv3 zM1 zN2)
set_option maxRecDepth 10000 in
theorem k_X10_playTo {d : Nat} {dm : List am_C} {b : Nat} (h0 : am_d0 dm) (h1b : am_d1 dm b) (h2 : am_d2 dm) {a1 : Int32} {M : am_I} {N : am_N} {post : am_I → am_N → Prop} (h : w_X10_playTo b a1 M N post) : jg (d + 7) mX10_playTo dm 0 [(0, .inr (.inr (1, b, 0))), (1, .inl a1)] [] M N (am_pv post) := by
  refine j_aload_n 0 dX10_playTo_0 rfl ?_
  refine j_invV (As := []) dX10_playTo_1 msRX10_85 mbX10_hearTold rfl rfl (Nat.le_of_ble_eq_true rfl) (Nat.le_of_ble_eq_true rfl) (by omega) (h1b 0 (by decide)) rfl rfl (k_X10_hearTold (d := d + 1) h0 h1b h2 h) ?_
  rintro _ zM1 zN2 ⟨rfl, h⟩
  refine j_aload_n 0 dX10_playTo_4 rfl ?_
  refine j_getI dX10_playTo_5 fsRX10_66 (h1b 0 (by decide)) rfl ?_
  refine j_topi (fun zv3 hzv3 => ?_)
  replace h := h zv3 hzv3
  refine j_istore_n dX10_playTo_8 (by decide) rfl ?_
  refine j_sub [1, 2, 0] rfl ?_
  obtain ⟨n, h⟩ := h
  exact k_X10_playTo_p9 h0 h1b h2 n _ _ _ _ h
