/-! ===== methods: 12.table ===== -/
theorem dX9_isFull_0 : decode mX9_isFull.2.1 0 = .ok (.aload_n 0, 1) := by decide +kernel
theorem dX9_isFull_1 : decode mX9_isFull.2.1 1 = .ok (.getfield 20, 3) := by decide +kernel
theorem dX9_isFull_4 : decode mX9_isFull.2.1 4 = .ok (.aload_n 0, 1) := by decide +kernel
theorem dX9_isFull_5 : decode mX9_isFull.2.1 5 = .ok (.getfield 7, 3) := by decide +kernel
theorem dX9_isFull_8 : decode mX9_isFull.2.1 8 = .ok (.if_icmp .lt 7, 3) := by decide +kernel
theorem dX9_isFull_11 : decode mX9_isFull.2.1 11 = .ok (.iconst 1, 1) := by decide +kernel
theorem dX9_isFull_12 : decode mX9_isFull.2.1 12 = .ok (.goto 4, 3) := by decide +kernel
theorem dX9_isFull_15 : decode mX9_isFull.2.1 15 = .ok (.iconst 0, 1) := by decide +kernel
theorem dX9_isFull_16 : decode mX9_isFull.2.1 16 = .ok (.ireturn, 1) := by decide +kernel
theorem dX9_has_0 : decode mX9_has.2.1 0 = .ok (.iload_n 1, 1) := by decide +kernel
theorem dX9_has_1 : decode mX9_has.2.1 1 = .ok (.ifCond .lt 15, 3) := by decide +kernel
theorem dX9_has_4 : decode mX9_has.2.1 4 = .ok (.iload_n 1, 1) := by decide +kernel
theorem dX9_has_5 : decode mX9_has.2.1 5 = .ok (.aload_n 0, 1) := by decide +kernel
theorem dX9_has_6 : decode mX9_has.2.1 6 = .ok (.getfield 20, 3) := by decide +kernel
theorem dX9_has_9 : decode mX9_has.2.1 9 = .ok (.if_icmp .ge 7, 3) := by decide +kernel
theorem dX9_has_12 : decode mX9_has.2.1 12 = .ok (.iconst 1, 1) := by decide +kernel
theorem dX9_has_13 : decode mX9_has.2.1 13 = .ok (.goto 4, 3) := by decide +kernel
theorem dX9_has_16 : decode mX9_has.2.1 16 = .ok (.iconst 0, 1) := by decide +kernel
theorem dX9_has_17 : decode mX9_has.2.1 17 = .ok (.ireturn, 1) := by decide +kernel
theorem dX9_at_0 : decode mX9_at.2.1 0 = .ok (.iload_n 1, 1) := by decide +kernel
theorem dX9_at_1 : decode mX9_at.2.1 1 = .ok (.ifCond .lt 23, 3) := by decide +kernel
theorem dX9_at_4 : decode mX9_at.2.1 4 = .ok (.iload_n 1, 1) := by decide +kernel
theorem dX9_at_5 : decode mX9_at.2.1 5 = .ok (.aload_n 0, 1) := by decide +kernel
theorem dX9_at_6 : decode mX9_at.2.1 6 = .ok (.getfield 20, 3) := by decide +kernel
theorem dX9_at_9 : decode mX9_at.2.1 9 = .ok (.if_icmp .ge 15, 3) := by decide +kernel
theorem dX9_at_12 : decode mX9_at.2.1 12 = .ok (.iload_n 2, 1) := by decide +kernel
theorem dX9_at_13 : decode mX9_at.2.1 13 = .ok (.ifCond .lt 11, 3) := by decide +kernel
theorem dX9_at_16 : decode mX9_at.2.1 16 = .ok (.iload_n 2, 1) := by decide +kernel
theorem dX9_at_17 : decode mX9_at.2.1 17 = .ok (.aload_n 0, 1) := by decide +kernel
theorem dX9_at_18 : decode mX9_at.2.1 18 = .ok (.getfield 13, 3) := by decide +kernel
theorem dX9_at_21 : decode mX9_at.2.1 21 = .ok (.if_icmp .lt 5, 3) := by decide +kernel
theorem dX9_at_24 : decode mX9_at.2.1 24 = .ok (.iconst 0, 1) := by decide +kernel
theorem dX9_at_25 : decode mX9_at.2.1 25 = .ok (.ireturn, 1) := by decide +kernel
theorem dX9_at_26 : decode mX9_at.2.1 26 = .ok (.aload_n 0, 1) := by decide +kernel
theorem dX9_at_27 : decode mX9_at.2.1 27 = .ok (.getfield 16, 3) := by decide +kernel
theorem dX9_at_30 : decode mX9_at.2.1 30 = .ok (.iload_n 1, 1) := by decide +kernel
theorem dX9_at_31 : decode mX9_at.2.1 31 = .ok (.aload_n 0, 1) := by decide +kernel
theorem dX9_at_32 : decode mX9_at.2.1 32 = .ok (.getfield 13, 3) := by decide +kernel
theorem dX9_at_35 : decode mX9_at.2.1 35 = .ok (.imul, 1) := by decide +kernel
theorem dX9_at_36 : decode mX9_at.2.1 36 = .ok (.iload_n 2, 1) := by decide +kernel
theorem dX9_at_37 : decode mX9_at.2.1 37 = .ok (.iadd, 1) := by decide +kernel
theorem dX9_at_38 : decode mX9_at.2.1 38 = .ok (.iaload, 1) := by decide +kernel
theorem dX9_at_39 : decode mX9_at.2.1 39 = .ok (.ireturn, 1) := by decide +kernel
theorem dX9_put_0 : decode mX9_put.2.1 0 = .ok (.iload_n 1, 1) := by decide +kernel
theorem dX9_put_1 : decode mX9_put.2.1 1 = .ok (.aload_n 0, 1) := by decide +kernel
theorem dX9_put_2 : decode mX9_put.2.1 2 = .ok (.getfield 13, 3) := by decide +kernel
theorem dX9_put_5 : decode mX9_put.2.1 5 = .ok (.if_icmp .ge 29, 3) := by decide +kernel
theorem dX9_put_8 : decode mX9_put.2.1 8 = .ok (.aload_n 0, 1) := by decide +kernel
theorem dX9_put_9 : decode mX9_put.2.1 9 = .ok (.getfield 20, 3) := by decide +kernel
theorem dX9_put_12 : decode mX9_put.2.1 12 = .ok (.ifCond .le 22, 3) := by decide +kernel
theorem dX9_put_15 : decode mX9_put.2.1 15 = .ok (.aload_n 0, 1) := by decide +kernel
theorem dX9_put_16 : decode mX9_put.2.1 16 = .ok (.getfield 16, 3) := by decide +kernel
theorem dX9_put_19 : decode mX9_put.2.1 19 = .ok (.aload_n 0, 1) := by decide +kernel
theorem dX9_put_20 : decode mX9_put.2.1 20 = .ok (.getfield 20, 3) := by decide +kernel
theorem dX9_put_23 : decode mX9_put.2.1 23 = .ok (.iconst 1, 1) := by decide +kernel
theorem dX9_put_24 : decode mX9_put.2.1 24 = .ok (.isub, 1) := by decide +kernel
theorem dX9_put_25 : decode mX9_put.2.1 25 = .ok (.aload_n 0, 1) := by decide +kernel
theorem dX9_put_26 : decode mX9_put.2.1 26 = .ok (.getfield 13, 3) := by decide +kernel
theorem dX9_put_29 : decode mX9_put.2.1 29 = .ok (.imul, 1) := by decide +kernel
theorem dX9_put_30 : decode mX9_put.2.1 30 = .ok (.iload_n 1, 1) := by decide +kernel
theorem dX9_put_31 : decode mX9_put.2.1 31 = .ok (.iadd, 1) := by decide +kernel
theorem dX9_put_32 : decode mX9_put.2.1 32 = .ok (.iload_n 2, 1) := by decide +kernel
theorem dX9_put_33 : decode mX9_put.2.1 33 = .ok (.iastore, 1) := by decide +kernel
theorem dX9_put_34 : decode mX9_put.2.1 34 = .ok (.return_, 1) := by decide +kernel
theorem dX0_hasRoom_0 : decode mX0_hasRoom.2.1 0 = .ok (.aload_n 1, 1) := by decide +kernel
theorem dX0_hasRoom_1 : decode mX0_hasRoom.2.1 1 = .ok (.invokevirtual 35, 3) := by decide +kernel
theorem dX0_hasRoom_4 : decode mX0_hasRoom.2.1 4 = .ok (.ifCond .ne 17, 3) := by decide +kernel
theorem dX0_hasRoom_7 : decode mX0_hasRoom.2.1 7 = .ok (.aload_n 0, 1) := by decide +kernel
theorem dX0_hasRoom_8 : decode mX0_hasRoom.2.1 8 = .ok (.getfield 14, 3) := by decide +kernel
theorem dX0_hasRoom_11 : decode mX0_hasRoom.2.1 11 = .ok (.invokevirtual 35, 3) := by decide +kernel
theorem dX0_hasRoom_14 : decode mX0_hasRoom.2.1 14 = .ok (.ifCond .ne 7, 3) := by decide +kernel
theorem dX0_hasRoom_17 : decode mX0_hasRoom.2.1 17 = .ok (.iconst 1, 1) := by decide +kernel
theorem dX0_hasRoom_18 : decode mX0_hasRoom.2.1 18 = .ok (.goto 4, 3) := by decide +kernel
theorem dX0_hasRoom_21 : decode mX0_hasRoom.2.1 21 = .ok (.iconst 0, 1) := by decide +kernel
theorem dX0_hasRoom_22 : decode mX0_hasRoom.2.1 22 = .ok (.ireturn, 1) := by decide +kernel
theorem dX0_fallingAt_0 : decode mX0_fallingAt.2.1 0 = .ok (.iconst 0, 1) := by decide +kernel
theorem dX0_fallingAt_1 : decode mX0_fallingAt.2.1 1 = .ok (.istore_n 3, 1) := by decide +kernel
theorem dX0_fallingAt_2 : decode mX0_fallingAt.2.1 2 = .ok (.iconst 0, 1) := by decide +kernel
theorem dX0_fallingAt_3 : decode mX0_fallingAt.2.1 3 = .ok (.istore 4, 2) := by decide +kernel
theorem dX0_fallingAt_5 : decode mX0_fallingAt.2.1 5 = .ok (.iload 4, 2) := by decide +kernel
theorem dX0_fallingAt_7 : decode mX0_fallingAt.2.1 7 = .ok (.aload_n 0, 1) := by decide +kernel
theorem dX0_fallingAt_8 : decode mX0_fallingAt.2.1 8 = .ok (.getfield 20, 3) := by decide +kernel
theorem dX0_fallingAt_11 : decode mX0_fallingAt.2.1 11 = .ok (.getfield 39, 3) := by decide +kernel
theorem dX0_fallingAt_14 : decode mX0_fallingAt.2.1 14 = .ok (.if_icmp .ge 56, 3) := by decide +kernel
theorem dX0_fallingAt_17 : decode mX0_fallingAt.2.1 17 = .ok (.iload 4, 2) := by decide +kernel
theorem dX0_fallingAt_19 : decode mX0_fallingAt.2.1 19 = .ok (.iload_n 2, 1) := by decide +kernel
theorem dX0_fallingAt_20 : decode mX0_fallingAt.2.1 20 = .ok (.if_icmp .eq 44, 3) := by decide +kernel
theorem dX0_fallingAt_23 : decode mX0_fallingAt.2.1 23 = .ok (.aload_n 0, 1) := by decide +kernel
theorem dX0_fallingAt_24 : decode mX0_fallingAt.2.1 24 = .ok (.getfield 20, 3) := by decide +kernel
theorem dX0_fallingAt_27 : decode mX0_fallingAt.2.1 27 = .ok (.iload 4, 2) := by decide +kernel
theorem dX0_fallingAt_29 : decode mX0_fallingAt.2.1 29 = .ok (.iconst 0, 1) := by decide +kernel
theorem dX0_fallingAt_30 : decode mX0_fallingAt.2.1 30 = .ok (.invokevirtual 43, 3) := by decide +kernel
theorem dX0_fallingAt_33 : decode mX0_fallingAt.2.1 33 = .ok (.iload_n 1, 1) := by decide +kernel
theorem dX0_fallingAt_34 : decode mX0_fallingAt.2.1 34 = .ok (.if_icmp .gt 30, 3) := by decide +kernel
theorem dX0_fallingAt_37 : decode mX0_fallingAt.2.1 37 = .ok (.iload_n 1, 1) := by decide +kernel
theorem dX0_fallingAt_38 : decode mX0_fallingAt.2.1 38 = .ok (.aload_n 0, 1) := by decide +kernel
theorem dX0_fallingAt_39 : decode mX0_fallingAt.2.1 39 = .ok (.getfield 20, 3) := by decide +kernel
theorem dX0_fallingAt_42 : decode mX0_fallingAt.2.1 42 = .ok (.iload 4, 2) := by decide +kernel
theorem dX0_fallingAt_44 : decode mX0_fallingAt.2.1 44 = .ok (.iconst 1, 1) := by decide +kernel
theorem dX0_fallingAt_45 : decode mX0_fallingAt.2.1 45 = .ok (.invokevirtual 43, 3) := by decide +kernel
theorem dX0_fallingAt_48 : decode mX0_fallingAt.2.1 48 = .ok (.if_icmp .gt 16, 3) := by decide +kernel
theorem dX0_fallingAt_51 : decode mX0_fallingAt.2.1 51 = .ok (.iload_n 3, 1) := by decide +kernel
theorem dX0_fallingAt_52 : decode mX0_fallingAt.2.1 52 = .ok (.aload_n 0, 1) := by decide +kernel
theorem dX0_fallingAt_53 : decode mX0_fallingAt.2.1 53 = .ok (.getfield 20, 3) := by decide +kernel
theorem dX0_fallingAt_56 : decode mX0_fallingAt.2.1 56 = .ok (.iload 4, 2) := by decide +kernel
theorem dX0_fallingAt_58 : decode mX0_fallingAt.2.1 58 = .ok (.iconst 2, 1) := by decide +kernel
theorem dX0_fallingAt_59 : decode mX0_fallingAt.2.1 59 = .ok (.invokevirtual 43, 3) := by decide +kernel
theorem dX0_fallingAt_62 : decode mX0_fallingAt.2.1 62 = .ok (.iadd, 1) := by decide +kernel
theorem dX0_fallingAt_63 : decode mX0_fallingAt.2.1 63 = .ok (.istore_n 3, 1) := by decide +kernel
theorem dX0_fallingAt_64 : decode mX0_fallingAt.2.1 64 = .ok (.iinc 4 1, 3) := by decide +kernel
theorem dX0_fallingAt_67 : decode mX0_fallingAt.2.1 67 = .ok (.goto (-62), 3) := by decide +kernel
theorem dX0_fallingAt_70 : decode mX0_fallingAt.2.1 70 = .ok (.iload_n 3, 1) := by decide +kernel
theorem dX0_fallingAt_71 : decode mX0_fallingAt.2.1 71 = .ok (.ireturn, 1) := by decide +kernel
theorem dX0_hoursToRain_0 : decode mX0_hoursToRain.2.1 0 = .ok (.sipush 900, 3) := by decide +kernel
theorem dX0_hoursToRain_3 : decode mX0_hoursToRain.2.1 3 = .ok (.istore_n 2, 1) := by decide +kernel
theorem dX0_hoursToRain_4 : decode mX0_hoursToRain.2.1 4 = .ok (.iconst 0, 1) := by decide +kernel
theorem dX0_hoursToRain_5 : decode mX0_hoursToRain.2.1 5 = .ok (.istore_n 3, 1) := by decide +kernel
theorem dX0_hoursToRain_6 : decode mX0_hoursToRain.2.1 6 = .ok (.iload_n 3, 1) := by decide +kernel
theorem dX0_hoursToRain_7 : decode mX0_hoursToRain.2.1 7 = .ok (.aload_n 0, 1) := by decide +kernel
theorem dX0_hoursToRain_8 : decode mX0_hoursToRain.2.1 8 = .ok (.getfield 20, 3) := by decide +kernel
theorem dX0_hoursToRain_11 : decode mX0_hoursToRain.2.1 11 = .ok (.getfield 39, 3) := by decide +kernel
theorem dX0_hoursToRain_14 : decode mX0_hoursToRain.2.1 14 = .ok (.if_icmp .ge 44, 3) := by decide +kernel
theorem dX0_hoursToRain_17 : decode mX0_hoursToRain.2.1 17 = .ok (.aload_n 0, 1) := by decide +kernel
theorem dX0_hoursToRain_18 : decode mX0_hoursToRain.2.1 18 = .ok (.getfield 20, 3) := by decide +kernel
theorem dX0_hoursToRain_21 : decode mX0_hoursToRain.2.1 21 = .ok (.iload_n 3, 1) := by decide +kernel
theorem dX0_hoursToRain_22 : decode mX0_hoursToRain.2.1 22 = .ok (.iconst 1, 1) := by decide +kernel
theorem dX0_hoursToRain_23 : decode mX0_hoursToRain.2.1 23 = .ok (.invokevirtual 43, 3) := by decide +kernel
theorem dX0_hoursToRain_26 : decode mX0_hoursToRain.2.1 26 = .ok (.iload_n 1, 1) := by decide +kernel
theorem dX0_hoursToRain_27 : decode mX0_hoursToRain.2.1 27 = .ok (.if_icmp .le 25, 3) := by decide +kernel
theorem dX0_hoursToRain_30 : decode mX0_hoursToRain.2.1 30 = .ok (.iload_n 2, 1) := by decide +kernel
theorem dX0_hoursToRain_31 : decode mX0_hoursToRain.2.1 31 = .ok (.aload_n 0, 1) := by decide +kernel
theorem dX0_hoursToRain_32 : decode mX0_hoursToRain.2.1 32 = .ok (.getfield 20, 3) := by decide +kernel
theorem dX0_hoursToRain_35 : decode mX0_hoursToRain.2.1 35 = .ok (.iload_n 3, 1) := by decide +kernel
theorem dX0_hoursToRain_36 : decode mX0_hoursToRain.2.1 36 = .ok (.iconst 0, 1) := by decide +kernel
theorem dX0_hoursToRain_37 : decode mX0_hoursToRain.2.1 37 = .ok (.invokevirtual 43, 3) := by decide +kernel
theorem dX0_hoursToRain_40 : decode mX0_hoursToRain.2.1 40 = .ok (.iload_n 1, 1) := by decide +kernel
theorem dX0_hoursToRain_41 : decode mX0_hoursToRain.2.1 41 = .ok (.iconst 1, 1) := by decide +kernel
theorem dX0_hoursToRain_42 : decode mX0_hoursToRain.2.1 42 = .ok (.iadd, 1) := by decide +kernel
theorem dX0_hoursToRain_43 : decode mX0_hoursToRain.2.1 43 = .ok (.invokestatic 47, 3) := by decide +kernel
theorem dX0_hoursToRain_46 : decode mX0_hoursToRain.2.1 46 = .ok (.iload_n 1, 1) := by decide +kernel
theorem dX0_hoursToRain_47 : decode mX0_hoursToRain.2.1 47 = .ok (.isub, 1) := by decide +kernel
theorem dX0_hoursToRain_48 : decode mX0_hoursToRain.2.1 48 = .ok (.invokestatic 52, 3) := by decide +kernel
theorem dX0_hoursToRain_51 : decode mX0_hoursToRain.2.1 51 = .ok (.istore_n 2, 1) := by decide +kernel
theorem dX0_hoursToRain_52 : decode mX0_hoursToRain.2.1 52 = .ok (.iinc 3 1, 3) := by decide +kernel
theorem dX0_hoursToRain_55 : decode mX0_hoursToRain.2.1 55 = .ok (.goto (-49), 3) := by decide +kernel
theorem dX0_hoursToRain_58 : decode mX0_hoursToRain.2.1 58 = .ok (.iload_n 2, 1) := by decide +kernel
theorem dX0_hoursToRain_59 : decode mX0_hoursToRain.2.1 59 = .ok (.ireturn, 1) := by decide +kernel
theorem dX8_armsAsDealt_0 : decode mX8_armsAsDealt.2.1 0 = .ok (.iconst 0, 1) := by decide +kernel
theorem dX8_armsAsDealt_1 : decode mX8_armsAsDealt.2.1 1 = .ok (.istore_n 1, 1) := by decide +kernel
theorem dX8_armsAsDealt_2 : decode mX8_armsAsDealt.2.1 2 = .ok (.iconst 0, 1) := by decide +kernel
theorem dX8_armsAsDealt_3 : decode mX8_armsAsDealt.2.1 3 = .ok (.istore_n 2, 1) := by decide +kernel
theorem dX8_armsAsDealt_4 : decode mX8_armsAsDealt.2.1 4 = .ok (.iload_n 2, 1) := by decide +kernel
theorem dX8_armsAsDealt_5 : decode mX8_armsAsDealt.2.1 5 = .ok (.aload_n 0, 1) := by decide +kernel
theorem dX8_armsAsDealt_6 : decode mX8_armsAsDealt.2.1 6 = .ok (.getfield 14, 3) := by decide +kernel
theorem dX8_armsAsDealt_9 : decode mX8_armsAsDealt.2.1 9 = .ok (.getfield 38, 3) := by decide +kernel
theorem dX8_armsAsDealt_12 : decode mX8_armsAsDealt.2.1 12 = .ok (.if_icmp .ge 23, 3) := by decide +kernel
theorem dX8_armsAsDealt_15 : decode mX8_armsAsDealt.2.1 15 = .ok (.iload_n 1, 1) := by decide +kernel
theorem dX8_armsAsDealt_16 : decode mX8_armsAsDealt.2.1 16 = .ok (.aload_n 0, 1) := by decide +kernel
theorem dX8_armsAsDealt_17 : decode mX8_armsAsDealt.2.1 17 = .ok (.getfield 14, 3) := by decide +kernel
theorem dX8_armsAsDealt_20 : decode mX8_armsAsDealt.2.1 20 = .ok (.iload_n 2, 1) := by decide +kernel
theorem dX8_armsAsDealt_21 : decode mX8_armsAsDealt.2.1 21 = .ok (.iconst 0, 1) := by decide +kernel
theorem dX8_armsAsDealt_22 : decode mX8_armsAsDealt.2.1 22 = .ok (.invokevirtual 42, 3) := by decide +kernel
theorem dX8_armsAsDealt_25 : decode mX8_armsAsDealt.2.1 25 = .ok (.iload_n 2, 1) := by decide +kernel
theorem dX8_armsAsDealt_26 : decode mX8_armsAsDealt.2.1 26 = .ok (.ishl, 1) := by decide +kernel
theorem dX8_armsAsDealt_27 : decode mX8_armsAsDealt.2.1 27 = .ok (.ior, 1) := by decide +kernel
theorem dX8_armsAsDealt_28 : decode mX8_armsAsDealt.2.1 28 = .ok (.istore_n 1, 1) := by decide +kernel
theorem dX8_armsAsDealt_29 : decode mX8_armsAsDealt.2.1 29 = .ok (.iinc 2 1, 3) := by decide +kernel
theorem dX8_armsAsDealt_32 : decode mX8_armsAsDealt.2.1 32 = .ok (.goto (-28), 3) := by decide +kernel
theorem dX8_armsAsDealt_35 : decode mX8_armsAsDealt.2.1 35 = .ok (.iload_n 1, 1) := by decide +kernel
theorem dX8_armsAsDealt_36 : decode mX8_armsAsDealt.2.1 36 = .ok (.ireturn, 1) := by decide +kernel
theorem dX8_leadOf_0 : decode mX8_leadOf.2.1 0 = .ok (.iload_n 1, 1) := by decide +kernel
theorem dX8_leadOf_1 : decode mX8_leadOf.2.1 1 = .ok (.invokestatic 33, 3) := by decide +kernel
theorem dX8_leadOf_4 : decode mX8_leadOf.2.1 4 = .ok (.istore_n 2, 1) := by decide +kernel
theorem dX8_leadOf_5 : decode mX8_leadOf.2.1 5 = .ok (.iconst 0, 1) := by decide +kernel
theorem dX8_leadOf_6 : decode mX8_leadOf.2.1 6 = .ok (.istore_n 3, 1) := by decide +kernel
theorem dX8_leadOf_7 : decode mX8_leadOf.2.1 7 = .ok (.iconst 0, 1) := by decide +kernel
theorem dX8_leadOf_8 : decode mX8_leadOf.2.1 8 = .ok (.istore 4, 2) := by decide +kernel
theorem dX8_leadOf_10 : decode mX8_leadOf.2.1 10 = .ok (.iconst 0, 1) := by decide +kernel
theorem dX8_leadOf_11 : decode mX8_leadOf.2.1 11 = .ok (.istore 5, 2) := by decide +kernel
theorem dX8_leadOf_13 : decode mX8_leadOf.2.1 13 = .ok (.iload 5, 2) := by decide +kernel
theorem dX8_leadOf_15 : decode mX8_leadOf.2.1 15 = .ok (.aload_n 0, 1) := by decide +kernel
theorem dX8_leadOf_16 : decode mX8_leadOf.2.1 16 = .ok (.getfield 14, 3) := by decide +kernel
theorem dX8_leadOf_19 : decode mX8_leadOf.2.1 19 = .ok (.getfield 38, 3) := by decide +kernel
theorem dX8_leadOf_22 : decode mX8_leadOf.2.1 22 = .ok (.if_icmp .ge 50, 3) := by decide +kernel
theorem dX8_leadOf_25 : decode mX8_leadOf.2.1 25 = .ok (.iload_n 1, 1) := by decide +kernel
theorem dX8_leadOf_26 : decode mX8_leadOf.2.1 26 = .ok (.iload 5, 2) := by decide +kernel
theorem dX8_leadOf_28 : decode mX8_leadOf.2.1 28 = .ok (.ishr, 1) := by decide +kernel
theorem dX8_leadOf_29 : decode mX8_leadOf.2.1 29 = .ok (.iconst 1, 1) := by decide +kernel
theorem dX8_leadOf_30 : decode mX8_leadOf.2.1 30 = .ok (.iand, 1) := by decide +kernel
theorem dX8_leadOf_31 : decode mX8_leadOf.2.1 31 = .ok (.iconst 1, 1) := by decide +kernel
theorem dX8_leadOf_32 : decode mX8_leadOf.2.1 32 = .ok (.if_icmp .ne 19, 3) := by decide +kernel
theorem dX8_leadOf_35 : decode mX8_leadOf.2.1 35 = .ok (.iload_n 3, 1) := by decide +kernel
theorem dX8_leadOf_36 : decode mX8_leadOf.2.1 36 = .ok (.aload_n 0, 1) := by decide +kernel
theorem dX8_leadOf_37 : decode mX8_leadOf.2.1 37 = .ok (.getfield 14, 3) := by decide +kernel
theorem dX8_leadOf_40 : decode mX8_leadOf.2.1 40 = .ok (.iload 5, 2) := by decide +kernel
theorem dX8_leadOf_42 : decode mX8_leadOf.2.1 42 = .ok (.iconst 1, 1) := by decide +kernel
theorem dX8_leadOf_43 : decode mX8_leadOf.2.1 43 = .ok (.invokevirtual 42, 3) := by decide +kernel
theorem dX8_leadOf_46 : decode mX8_leadOf.2.1 46 = .ok (.iadd, 1) := by decide +kernel
theorem dX8_leadOf_47 : decode mX8_leadOf.2.1 47 = .ok (.istore_n 3, 1) := by decide +kernel
theorem dX8_leadOf_48 : decode mX8_leadOf.2.1 48 = .ok (.goto 18, 3) := by decide +kernel
theorem dX8_leadOf_51 : decode mX8_leadOf.2.1 51 = .ok (.iload 4, 2) := by decide +kernel
theorem dX8_leadOf_53 : decode mX8_leadOf.2.1 53 = .ok (.aload_n 0, 1) := by decide +kernel
theorem dX8_leadOf_54 : decode mX8_leadOf.2.1 54 = .ok (.getfield 14, 3) := by decide +kernel
theorem dX8_leadOf_57 : decode mX8_leadOf.2.1 57 = .ok (.iload 5, 2) := by decide +kernel
theorem dX8_leadOf_59 : decode mX8_leadOf.2.1 59 = .ok (.iconst 1, 1) := by decide +kernel
theorem dX8_leadOf_60 : decode mX8_leadOf.2.1 60 = .ok (.invokevirtual 42, 3) := by decide +kernel
theorem dX8_leadOf_63 : decode mX8_leadOf.2.1 63 = .ok (.iadd, 1) := by decide +kernel
theorem dX8_leadOf_64 : decode mX8_leadOf.2.1 64 = .ok (.istore 4, 2) := by decide +kernel
theorem dX8_leadOf_66 : decode mX8_leadOf.2.1 66 = .ok (.iinc 5 1, 3) := by decide +kernel
theorem dX8_leadOf_69 : decode mX8_leadOf.2.1 69 = .ok (.goto (-56), 3) := by decide +kernel
theorem dX8_leadOf_72 : decode mX8_leadOf.2.1 72 = .ok (.iload_n 3, 1) := by decide +kernel
theorem dX8_leadOf_73 : decode mX8_leadOf.2.1 73 = .ok (.aload_n 0, 1) := by decide +kernel
theorem dX8_leadOf_74 : decode mX8_leadOf.2.1 74 = .ok (.getfield 14, 3) := by decide +kernel
theorem dX8_leadOf_77 : decode mX8_leadOf.2.1 77 = .ok (.getfield 38, 3) := by decide +kernel
theorem dX8_leadOf_80 : decode mX8_leadOf.2.1 80 = .ok (.iload_n 2, 1) := by decide +kernel
theorem dX8_leadOf_81 : decode mX8_leadOf.2.1 81 = .ok (.isub, 1) := by decide +kernel
theorem dX8_leadOf_82 : decode mX8_leadOf.2.1 82 = .ok (.imul, 1) := by decide +kernel
theorem dX8_leadOf_83 : decode mX8_leadOf.2.1 83 = .ok (.iload 4, 2) := by decide +kernel
theorem dX8_leadOf_85 : decode mX8_leadOf.2.1 85 = .ok (.iload_n 2, 1) := by decide +kernel
theorem dX8_leadOf_86 : decode mX8_leadOf.2.1 86 = .ok (.imul, 1) := by decide +kernel
theorem dX8_leadOf_87 : decode mX8_leadOf.2.1 87 = .ok (.isub, 1) := by decide +kernel
theorem dX8_leadOf_88 : decode mX8_leadOf.2.1 88 = .ok (.ireturn, 1) := by decide +kernel
theorem dX9_add_0 : decode mX9_add.2.1 0 = .ok (.aload_n 0, 1) := by decide +kernel
theorem dX9_add_1 : decode mX9_add.2.1 1 = .ok (.invokevirtual 23, 3) := by decide +kernel
theorem dX9_add_4 : decode mX9_add.2.1 4 = .ok (.ifCond .eq 4, 3) := by decide +kernel
theorem dX9_add_7 : decode mX9_add.2.1 7 = .ok (.return_, 1) := by decide +kernel
theorem dX9_add_8 : decode mX9_add.2.1 8 = .ok (.aload_n 0, 1) := by decide +kernel
theorem dX9_add_9 : decode mX9_add.2.1 9 = .ok (.dup, 1) := by decide +kernel
theorem dX9_add_10 : decode mX9_add.2.1 10 = .ok (.getfield 20, 3) := by decide +kernel
theorem dX9_add_13 : decode mX9_add.2.1 13 = .ok (.iconst 1, 1) := by decide +kernel
theorem dX9_add_14 : decode mX9_add.2.1 14 = .ok (.iadd, 1) := by decide +kernel
theorem dX9_add_15 : decode mX9_add.2.1 15 = .ok (.putfield 20, 3) := by decide +kernel
theorem dX9_add_18 : decode mX9_add.2.1 18 = .ok (.aload_n 0, 1) := by decide +kernel
theorem dX9_add_19 : decode mX9_add.2.1 19 = .ok (.iconst 0, 1) := by decide +kernel
theorem dX9_add_20 : decode mX9_add.2.1 20 = .ok (.iload_n 1, 1) := by decide +kernel
theorem dX9_add_21 : decode mX9_add.2.1 21 = .ok (.invokevirtual 27, 3) := by decide +kernel
theorem dX9_add_24 : decode mX9_add.2.1 24 = .ok (.aload_n 0, 1) := by decide +kernel
theorem dX9_add_25 : decode mX9_add.2.1 25 = .ok (.iconst 1, 1) := by decide +kernel
theorem dX9_add_26 : decode mX9_add.2.1 26 = .ok (.iload_n 2, 1) := by decide +kernel
theorem dX9_add_27 : decode mX9_add.2.1 27 = .ok (.invokevirtual 27, 3) := by decide +kernel
theorem dX9_add_30 : decode mX9_add.2.1 30 = .ok (.aload_n 0, 1) := by decide +kernel
theorem dX9_add_31 : decode mX9_add.2.1 31 = .ok (.iconst 2, 1) := by decide +kernel
theorem dX9_add_32 : decode mX9_add.2.1 32 = .ok (.iload_n 3, 1) := by decide +kernel
theorem dX9_add_33 : decode mX9_add.2.1 33 = .ok (.invokevirtual 27, 3) := by decide +kernel
theorem dX9_add_36 : decode mX9_add.2.1 36 = .ok (.aload_n 0, 1) := by decide +kernel
theorem dX9_add_37 : decode mX9_add.2.1 37 = .ok (.iconst 3, 1) := by decide +kernel
theorem dX9_add_38 : decode mX9_add.2.1 38 = .ok (.iload 4, 2) := by decide +kernel
theorem dX9_add_40 : decode mX9_add.2.1 40 = .ok (.invokevirtual 27, 3) := by decide +kernel
theorem dX9_add_43 : decode mX9_add.2.1 43 = .ok (.aload_n 0, 1) := by decide +kernel
theorem dX9_add_44 : decode mX9_add.2.1 44 = .ok (.iconst 4, 1) := by decide +kernel
theorem dX9_add_45 : decode mX9_add.2.1 45 = .ok (.iload 5, 2) := by decide +kernel
theorem dX9_add_47 : decode mX9_add.2.1 47 = .ok (.invokevirtual 27, 3) := by decide +kernel
theorem dX9_add_50 : decode mX9_add.2.1 50 = .ok (.aload_n 0, 1) := by decide +kernel
theorem dX9_add_51 : decode mX9_add.2.1 51 = .ok (.iconst 5, 1) := by decide +kernel
theorem dX9_add_52 : decode mX9_add.2.1 52 = .ok (.iload 6, 2) := by decide +kernel
theorem dX9_add_54 : decode mX9_add.2.1 54 = .ok (.invokevirtual 27, 3) := by decide +kernel
theorem dX9_add_57 : decode mX9_add.2.1 57 = .ok (.return_, 1) := by decide +kernel
theorem dX8_lead_0 : decode mX8_lead.2.1 0 = .ok (.aload_n 0, 1) := by decide +kernel
theorem dX8_lead_1 : decode mX8_lead.2.1 1 = .ok (.aload_n 0, 1) := by decide +kernel
theorem dX8_lead_2 : decode mX8_lead.2.1 2 = .ok (.invokevirtual 18, 3) := by decide +kernel
theorem dX8_lead_5 : decode mX8_lead.2.1 5 = .ok (.invokevirtual 22, 3) := by decide +kernel
theorem dX8_lead_8 : decode mX8_lead.2.1 8 = .ok (.ireturn, 1) := by decide +kernel
theorem dX8_waysWithLead_0 : decode mX8_waysWithLead.2.1 0 = .ok (.aload_n 0, 1) := by decide +kernel
theorem dX8_waysWithLead_1 : decode mX8_waysWithLead.2.1 1 = .ok (.invokevirtual 18, 3) := by decide +kernel
theorem dX8_waysWithLead_4 : decode mX8_waysWithLead.2.1 4 = .ok (.invokestatic 33, 3) := by decide +kernel
theorem dX8_waysWithLead_7 : decode mX8_waysWithLead.2.1 7 = .ok (.istore_n 2, 1) := by decide +kernel
theorem dX8_waysWithLead_8 : decode mX8_waysWithLead.2.1 8 = .ok (.iconst 0, 1) := by decide +kernel
theorem dX8_waysWithLead_9 : decode mX8_waysWithLead.2.1 9 = .ok (.istore_n 3, 1) := by decide +kernel
theorem dX8_waysWithLead_10 : decode mX8_waysWithLead.2.1 10 = .ok (.iconst 0, 1) := by decide +kernel
theorem dX8_waysWithLead_11 : decode mX8_waysWithLead.2.1 11 = .ok (.istore 4, 2) := by decide +kernel
theorem dX8_waysWithLead_13 : decode mX8_waysWithLead.2.1 13 = .ok (.iload 4, 2) := by decide +kernel
theorem dX8_waysWithLead_15 : decode mX8_waysWithLead.2.1 15 = .ok (.iconst 1, 1) := by decide +kernel
theorem dX8_waysWithLead_16 : decode mX8_waysWithLead.2.1 16 = .ok (.aload_n 0, 1) := by decide +kernel
theorem dX8_waysWithLead_17 : decode mX8_waysWithLead.2.1 17 = .ok (.getfield 14, 3) := by decide +kernel
theorem dX8_waysWithLead_20 : decode mX8_waysWithLead.2.1 20 = .ok (.getfield 38, 3) := by decide +kernel
theorem dX8_waysWithLead_23 : decode mX8_waysWithLead.2.1 23 = .ok (.ishl, 1) := by decide +kernel
theorem dX8_waysWithLead_24 : decode mX8_waysWithLead.2.1 24 = .ok (.if_icmp .ge 31, 3) := by decide +kernel
theorem dX8_waysWithLead_27 : decode mX8_waysWithLead.2.1 27 = .ok (.iload 4, 2) := by decide +kernel
theorem dX8_waysWithLead_29 : decode mX8_waysWithLead.2.1 29 = .ok (.invokestatic 33, 3) := by decide +kernel
theorem dX8_waysWithLead_32 : decode mX8_waysWithLead.2.1 32 = .ok (.iload_n 2, 1) := by decide +kernel
theorem dX8_waysWithLead_33 : decode mX8_waysWithLead.2.1 33 = .ok (.if_icmp .ne 16, 3) := by decide +kernel
theorem dX8_waysWithLead_36 : decode mX8_waysWithLead.2.1 36 = .ok (.aload_n 0, 1) := by decide +kernel
theorem dX8_waysWithLead_37 : decode mX8_waysWithLead.2.1 37 = .ok (.iload 4, 2) := by decide +kernel
theorem dX8_waysWithLead_39 : decode mX8_waysWithLead.2.1 39 = .ok (.invokevirtual 22, 3) := by decide +kernel
theorem dX8_waysWithLead_42 : decode mX8_waysWithLead.2.1 42 = .ok (.iload_n 1, 1) := by decide +kernel
theorem dX8_waysWithLead_43 : decode mX8_waysWithLead.2.1 43 = .ok (.if_icmp .lt 6, 3) := by decide +kernel
theorem dX8_waysWithLead_46 : decode mX8_waysWithLead.2.1 46 = .ok (.iinc 3 1, 3) := by decide +kernel
theorem dX8_waysWithLead_49 : decode mX8_waysWithLead.2.1 49 = .ok (.iinc 4 1, 3) := by decide +kernel
theorem dX8_waysWithLead_52 : decode mX8_waysWithLead.2.1 52 = .ok (.goto (-39), 3) := by decide +kernel
theorem dX8_waysWithLead_55 : decode mX8_waysWithLead.2.1 55 = .ok (.iload_n 3, 1) := by decide +kernel
theorem dX8_waysWithLead_56 : decode mX8_waysWithLead.2.1 56 = .ok (.ireturn, 1) := by decide +kernel
theorem dX8_allWays_0 : decode mX8_allWays.2.1 0 = .ok (.aload_n 0, 1) := by decide +kernel
theorem dX8_allWays_1 : decode mX8_allWays.2.1 1 = .ok (.ldc 26, 2) := by decide +kernel
theorem dX8_allWays_3 : decode mX8_allWays.2.1 3 = .ok (.invokevirtual 27, 3) := by decide +kernel
theorem dX8_allWays_6 : decode mX8_allWays.2.1 6 = .ok (.ireturn, 1) := by decide +kernel
theorem dX8_waysAsGood_0 : decode mX8_waysAsGood.2.1 0 = .ok (.aload_n 0, 1) := by decide +kernel
theorem dX8_waysAsGood_1 : decode mX8_waysAsGood.2.1 1 = .ok (.aload_n 0, 1) := by decide +kernel
theorem dX8_waysAsGood_2 : decode mX8_waysAsGood.2.1 2 = .ok (.invokevirtual 30, 3) := by decide +kernel
theorem dX8_waysAsGood_5 : decode mX8_waysAsGood.2.1 5 = .ok (.invokevirtual 27, 3) := by decide +kernel
theorem dX8_waysAsGood_8 : decode mX8_waysAsGood.2.1 8 = .ok (.ireturn, 1) := by decide +kernel
def w_X9_isFull (t : Nat) (M : am_I) (N : am_N) (post : Int32 → am_I → am_N → Prop) : Prop :=
  (((M (2, t, 0) 3) < (M (2, t, 0) 2) → post 0 M N) ∧ (¬ (M (2, t, 0) 3) < (M (2, t, 0) 2) → post 1 M N))
set_option maxRecDepth 10000 in
theorem k_X9_isFull {d : Nat} {dm : List am_C} {t : Nat} (h2 : am_d2 dm) (ht : t < 7) {M : am_I} {N : am_N} {post : Int32 → am_I → am_N → Prop} (h : w_X9_isFull t M N post) : jg (d + 1) mX9_isFull dm 0 [(0, .inr (.inr (2, t, 0)))] [] M N (am_pi post) := by
  refine j_aload_n 0 dX9_isFull_0 rfl ?_
  refine j_getI dX9_isFull_1 fsRX9_20 (h2 t ht 0 (by decide)) rfl ?_
  refine j_aload_n 0 dX9_isFull_4 rfl ?_
  refine j_getI dX9_isFull_5 fsRX9_7 (h2 t ht 0 (by decide)) rfl ?_
  refine j_icmp_lt (tgt := 15) dX9_isFull_8 (by decide) (fun hc => ?_) (fun hc => ?_)
  · replace h := h.1 hc
    refine j_iconst (v := 0) dX9_isFull_15 (by decide) ?_
    exact j_zret dX9_isFull_16 rfl (Or.inl rfl) ⟨_, rfl, h⟩
  · replace h := h.2 hc
    refine j_iconst (v := 1) dX9_isFull_11 (by decide) ?_
    refine j_goto (tgt := 16) dX9_isFull_12 (by decide) ?_
    exact j_zret dX9_isFull_16 rfl (Or.inr rfl) ⟨_, rfl, h⟩
def w_X9_has (t : Nat) (a1 : Int32) (M : am_I) (N : am_N) (post : Int32 → am_I → am_N → Prop) : Prop :=
  ((a1 < 0 → post 0 M N) ∧ (¬ a1 < 0 → (((M (2, t, 0) 3) ≤ a1 → post 0 M N) ∧ (¬ (M (2, t, 0) 3) ≤ a1 → post 1 M N))))
set_option maxRecDepth 10000 in
theorem k_X9_has {d : Nat} {dm : List am_C} {t : Nat} (h2 : am_d2 dm) (ht : t < 7) {a1 : Int32} {M : am_I} {N : am_N} {post : Int32 → am_I → am_N → Prop} (h : w_X9_has t a1 M N post) : jg (d + 1) mX9_has dm 0 [(0, .inr (.inr (2, t, 0))), (1, .inl a1)] [] M N (am_pi post) := by
  refine j_iload_n 1 dX9_has_0 rfl ?_
  refine j_if_lt (tgt := 16) dX9_has_1 (by decide) (fun hc => ?_) (fun hc => ?_)
  · replace h := h.1 hc
    refine j_iconst (v := 0) dX9_has_16 (by decide) ?_
    exact j_zret dX9_has_17 rfl (Or.inl rfl) ⟨_, rfl, h⟩
  · replace h := h.2 hc
    refine j_iload_n 1 dX9_has_4 rfl ?_
    refine j_aload_n 0 dX9_has_5 rfl ?_
    refine j_getI dX9_has_6 fsRX9_20 (h2 t ht 0 (by decide)) rfl ?_
    refine j_icmp_ge (tgt := 16) dX9_has_9 (by decide) (fun hc => ?_) (fun hc => ?_)
    · replace h := h.1 hc
      refine j_iconst (v := 0) dX9_has_16 (by decide) ?_
      exact j_zret dX9_has_17 rfl (Or.inl rfl) ⟨_, rfl, h⟩
    · replace h := h.2 hc
      refine j_iconst (v := 1) dX9_has_12 (by decide) ?_
      refine j_goto (tgt := 17) dX9_has_13 (by decide) ?_
      exact j_zret dX9_has_17 rfl (Or.inr rfl) ⟨_, rfl, h⟩
def w_X9_at (t : Nat) (a1 : Int32) (a2 : Int32) (M : am_I) (N : am_N) (post : Int32 → am_I → am_N → Prop) : Prop :=
  ((a1 < 0 → post 0 M N) ∧ (¬ a1 < 0 → (((M (2, t, 0) 3) ≤ a1 → post 0 M N) ∧ (¬ (M (2, t, 0) 3) ≤ a1 → ((a2 < 0 → post 0 M N) ∧ (¬ a2 < 0 → ((a2 < (M (2, t, 0) 1) → vp_in ((a1 * (M (2, t, 0) 1)) + a2) (am_cap t) ∧ post (M (2, t, 1) ((a1 * (M (2, t, 0) 1)) + a2).toNatClampNeg) M N) ∧ (¬ a2 < (M (2, t, 0) 1) → post 0 M N))))))))
set_option maxRecDepth 10000 in
theorem k_X9_at {d : Nat} {dm : List am_C} {t : Nat} (h2 : am_d2 dm) (ht : t < 7) {a1 : Int32} {a2 : Int32} {M : am_I} {N : am_N} {post : Int32 → am_I → am_N → Prop} (h : w_X9_at t a1 a2 M N post) : jg (d + 1) mX9_at dm 0 [(0, .inr (.inr (2, t, 0))), (1, .inl a1), (2, .inl a2)] [] M N (am_pi post) := by
  refine j_iload_n 1 dX9_at_0 rfl ?_
  refine j_if_lt (tgt := 24) dX9_at_1 (by decide) (fun hc => ?_) (fun hc => ?_)
  · replace h := h.1 hc
    refine j_iconst (v := 0) dX9_at_24 (by decide) ?_
    exact j_iret dX9_at_25 rfl ⟨_, rfl, h⟩
  · replace h := h.2 hc
    refine j_iload_n 1 dX9_at_4 rfl ?_
    refine j_aload_n 0 dX9_at_5 rfl ?_
    refine j_getI dX9_at_6 fsRX9_20 (h2 t ht 0 (by decide)) rfl ?_
    refine j_icmp_ge (tgt := 24) dX9_at_9 (by decide) (fun hc => ?_) (fun hc => ?_)
    · replace h := h.1 hc
      refine j_iconst (v := 0) dX9_at_24 (by decide) ?_
      exact j_iret dX9_at_25 rfl ⟨_, rfl, h⟩
    · replace h := h.2 hc
      refine j_iload_n 2 dX9_at_12 rfl ?_
      refine j_if_lt (tgt := 24) dX9_at_13 (by decide) (fun hc => ?_) (fun hc => ?_)
      · replace h := h.1 hc
        refine j_iconst (v := 0) dX9_at_24 (by decide) ?_
        exact j_iret dX9_at_25 rfl ⟨_, rfl, h⟩
      · replace h := h.2 hc
        refine j_iload_n 2 dX9_at_16 rfl ?_
        refine j_aload_n 0 dX9_at_17 rfl ?_
        refine j_getI dX9_at_18 fsRX9_13 (h2 t ht 0 (by decide)) rfl ?_
        refine j_icmp_lt (tgt := 26) dX9_at_21 (by decide) (fun hc => ?_) (fun hc => ?_)
        · replace h := h.1 hc
          refine j_aload_n 0 dX9_at_26 rfl ?_
          refine j_getR (b := (2, t, 1)) dX9_at_27 fsRX9_16 (h2 t ht 0 (by decide)) rfl rfl ?_
          refine j_iload_n 1 dX9_at_30 rfl ?_
          refine j_aload_n 0 dX9_at_31 rfl ?_
          refine j_getI dX9_at_32 fsRX9_13 (h2 t ht 0 (by decide)) rfl ?_
          refine j_imul dX9_at_35 ?_
          refine j_iload_n 2 dX9_at_36 rfl ?_
          refine j_iadd dX9_at_37 ?_
          obtain ⟨hq, h⟩ := h
          refine j_iald dX9_at_38 (h2 t ht 1 (by decide)) rfl hq ?_
          exact j_iret dX9_at_39 rfl ⟨_, rfl, h⟩
        · replace h := h.2 hc
          refine j_iconst (v := 0) dX9_at_24 (by decide) ?_
          exact j_iret dX9_at_25 rfl ⟨_, rfl, h⟩
def w_X9_put (t : Nat) (a1 : Int32) (a2 : Int32) (M : am_I) (N : am_N) (post : am_I → am_N → Prop) : Prop :=
  (((M (2, t, 0) 1) ≤ a1 → post M N) ∧ (¬ (M (2, t, 0) 1) ≤ a1 → (((M (2, t, 0) 3) ≤ 0 → post M N) ∧ (¬ (M (2, t, 0) 3) ≤ 0 → vp_in ((((M (2, t, 0) 3) - 1) * (M (2, t, 0) 1)) + a1) (am_cap t) ∧ post (am_u M (2, t, 1) ((((M (2, t, 0) 3) - 1) * (M (2, t, 0) 1)) + a1).toNatClampNeg a2) N))))
set_option maxRecDepth 10000 in
theorem k_X9_put {d : Nat} {dm : List am_C} {t : Nat} (h2 : am_d2 dm) (ht : t < 7) {a1 : Int32} {a2 : Int32} {M : am_I} {N : am_N} {post : am_I → am_N → Prop} (h : w_X9_put t a1 a2 M N post) : jg (d + 1) mX9_put dm 0 [(0, .inr (.inr (2, t, 0))), (1, .inl a1), (2, .inl a2)] [] M N (am_pv post) := by
  refine j_iload_n 1 dX9_put_0 rfl ?_
  refine j_aload_n 0 dX9_put_1 rfl ?_
  refine j_getI dX9_put_2 fsRX9_13 (h2 t ht 0 (by decide)) rfl ?_
  refine j_icmp_ge (tgt := 34) dX9_put_5 (by decide) (fun hc => ?_) (fun hc => ?_)
  · replace h := h.1 hc
    exact j_vret dX9_put_34 rfl ⟨rfl, h⟩
  · replace h := h.2 hc
    refine j_aload_n 0 dX9_put_8 rfl ?_
    refine j_getI dX9_put_9 fsRX9_20 (h2 t ht 0 (by decide)) rfl ?_
    refine j_if_le (tgt := 34) dX9_put_12 (by decide) (fun hc => ?_) (fun hc => ?_)
    · replace h := h.1 hc
      exact j_vret dX9_put_34 rfl ⟨rfl, h⟩
    · replace h := h.2 hc
      refine j_aload_n 0 dX9_put_15 rfl ?_
      refine j_getR (b := (2, t, 1)) dX9_put_16 fsRX9_16 (h2 t ht 0 (by decide)) rfl rfl ?_
      refine j_aload_n 0 dX9_put_19 rfl ?_
      refine j_getI dX9_put_20 fsRX9_20 (h2 t ht 0 (by decide)) rfl ?_
      refine j_iconst (v := 1) dX9_put_23 (by decide) ?_
      refine j_isub dX9_put_24 ?_
      refine j_aload_n 0 dX9_put_25 rfl ?_
      refine j_getI dX9_put_26 fsRX9_13 (h2 t ht 0 (by decide)) rfl ?_
      refine j_imul dX9_put_29 ?_
      refine j_iload_n 1 dX9_put_30 rfl ?_
      refine j_iadd dX9_put_31 ?_
      refine j_iload_n 2 dX9_put_32 rfl ?_
      obtain ⟨hq, h⟩ := h
      refine j_iast dX9_put_33 (h2 t ht 1 (by decide)) rfl hq ?_
      exact j_vret dX9_put_34 rfl ⟨rfl, h⟩
def w_X0_hasRoom (t : Nat) (M : am_I) (N : am_N) (post : Int32 → am_I → am_N → Prop) : Prop :=
  w_X9_isFull t M N (fun zr1 zM2 zN3 => ((¬ zr1 = 0 → post 0 zM2 zN3) ∧ (zr1 = 0 → w_X9_isFull 0 zM2 zN3 (fun zr4 zM5 zN6 => ((¬ zr4 = 0 → post 0 zM5 zN6) ∧ (zr4 = 0 → post 1 zM5 zN6))))))
set_option maxRecDepth 10000 in
theorem k_X0_hasRoom {d : Nat} {dm : List am_C} {t : Nat} (h0 : am_d0 dm) (h2 : am_d2 dm) (ht : t < 7) {M : am_I} {N : am_N} {post : Int32 → am_I → am_N → Prop} (h : w_X0_hasRoom t M N post) : jg (d + 2) mX0_hasRoom dm 0 [(0, .inr (.inr (0, 0, 1))), (1, .inr (.inr (2, t, 0)))] [] M N (am_pi post) := by
  refine j_aload_n 1 dX0_hasRoom_0 rfl ?_
  refine j_invV (As := []) dX0_hasRoom_1 msRX0_35 mbX9_isFull rfl rfl (Nat.le_of_ble_eq_true rfl) (Nat.le_of_ble_eq_true rfl) (by omega) (h2 t ht 0 (by decide)) rfl rfl (k_X9_isFull (d := d + 0) h2 ht h) ?_
  rintro _ zM2 zN3 ⟨zr1, rfl, h⟩
  refine j_if_ne (tgt := 21) dX0_hasRoom_4 (by decide) (fun hc => ?_) (fun hc => ?_)
  · replace h := h.1 hc
    refine j_iconst (v := 0) dX0_hasRoom_21 (by decide) ?_
    exact j_zret dX0_hasRoom_22 rfl (Or.inl rfl) ⟨_, rfl, h⟩
  · replace h := h.2 hc
    refine j_aload_n 0 dX0_hasRoom_7 rfl ?_
    refine j_getR (b := (2, 0, 0)) dX0_hasRoom_8 fsRX0_14 (h0 1 (by decide)) rfl rfl ?_
    refine j_invV (As := []) dX0_hasRoom_11 msRX0_35 mbX9_isFull rfl rfl (Nat.le_of_ble_eq_true rfl) (Nat.le_of_ble_eq_true rfl) (by omega) (h2 0 (by decide) 0 (by decide)) rfl rfl (k_X9_isFull (d := d + 0) h2 (by decide) h) ?_
    rintro _ zM5 zN6 ⟨zr4, rfl, h⟩
    refine j_if_ne (tgt := 21) dX0_hasRoom_14 (by decide) (fun hc => ?_) (fun hc => ?_)
    · replace h := h.1 hc
      refine j_iconst (v := 0) dX0_hasRoom_21 (by decide) ?_
      exact j_zret dX0_hasRoom_22 rfl (Or.inl rfl) ⟨_, rfl, h⟩
    · replace h := h.2 hc
      refine j_iconst (v := 1) dX0_hasRoom_17 (by decide) ?_
      refine j_goto (tgt := 22) dX0_hasRoom_18 (by decide) ?_
      exact j_zret dX0_hasRoom_22 rfl (Or.inr rfl) ⟨_, rfl, h⟩
def w_X0_fallingAt_p5_b (post : Int32 → am_I → am_N → Prop) (zk5 : Int32 → Int32 → Int32 → Int32 → am_I → am_N → Prop) (l1 : Int32) (l2 : Int32) (l3 : Int32) (l4 : Int32) (M : am_I) (N : am_N) : Prop :=
  (((M (2, 1, 0) 3) ≤ l4 → post l3 M N) ∧ (¬ (M (2, 1, 0) 3) ≤ l4 → ((l4 = l2 → zk5 l1 l2 l3 (l4 + 1) M N) ∧ (¬ l4 = l2 → w_X9_at 1 l4 0 M N (fun zr1 zM2 zN3 => ((l1 < zr1 → zk5 l1 l2 l3 (l4 + 1) zM2 zN3) ∧ (¬ l1 < zr1 → w_X9_at 1 l4 1 zM2 zN3 (fun zr4 zM5 zN6 => ((zr4 < l1 → zk5 l1 l2 l3 (l4 + 1) zM5 zN6) ∧ (¬ zr4 < l1 → w_X9_at 1 l4 2 zM5 zN6 (fun zr7 zM8 zN9 => zk5 l1 l2 (l3 + zr7) (l4 + 1) zM8 zN9)))))))))))
noncomputable def w_X0_fallingAt_p5 (post : Int32 → am_I → am_N → Prop) (n : Nat) : Int32 → Int32 → Int32 → Int32 → am_I → am_N → Prop :=
  Nat.rec (motive := fun _ => Int32 → Int32 → Int32 → Int32 → am_I → am_N → Prop) (fun _ _ _ _ _ _ => False) (fun _ zk => w_X0_fallingAt_p5_b post zk) n
theorem w_X0_fallingAt_p5_s (post : Int32 → am_I → am_N → Prop) (n : Nat) (l1 : Int32) (l2 : Int32) (l3 : Int32) (l4 : Int32) (M : am_I) (N : am_N) : w_X0_fallingAt_p5 post (n + 1) l1 l2 l3 l4 M N = w_X0_fallingAt_p5_b post (w_X0_fallingAt_p5 post n) l1 l2 l3 l4 M N := rfl
set_option maxRecDepth 10000 in
theorem k_X0_fallingAt_p5 {d : Nat} {dm : List am_C} (h0 : am_d0 dm) (h2 : am_d2 dm) {post : Int32 → am_I → am_N → Prop} : ∀ (n : Nat) (l1 : Int32) (l2 : Int32) (l3 : Int32) (l4 : Int32) (M : am_I) (N : am_N), w_X0_fallingAt_p5 post n l1 l2 l3 l4 M N → jg (d + 2) mX0_fallingAt dm 5 [(0, .inr (.inr (0, 0, 1))), (1, .inl l1), (2, .inl l2), (3, .inl l3), (4, .inl l4)] [] M N (am_pi post) := by
  intro n
  induction n with
  | zero => intro l1 l2 l3 l4 M N h; exact h.elim
  | succ n zih =>
    intro l1 l2 l3 l4 M N h
    replace h : w_X0_fallingAt_p5_b post (w_X0_fallingAt_p5 post n) l1 l2 l3 l4 M N := h
    refine j_iload 4 dX0_fallingAt_5 rfl ?_
    refine j_aload_n 0 dX0_fallingAt_7 rfl ?_
    refine j_getR (b := (2, 1, 0)) dX0_fallingAt_8 fsRX0_20 (h0 1 (by decide)) rfl rfl ?_
    refine j_getI dX0_fallingAt_11 fsRX0_39 (h2 1 (by decide) 0 (by decide)) rfl ?_
    refine j_icmp_ge (tgt := 70) dX0_fallingAt_14 (by decide) (fun hc => ?_) (fun hc => ?_)
    · replace h := h.1 hc
      refine j_iload_n 3 dX0_fallingAt_70 rfl ?_
      exact j_iret dX0_fallingAt_71 rfl ⟨_, rfl, h⟩
    · replace h := h.2 hc
      refine j_iload 4 dX0_fallingAt_17 rfl ?_
      refine j_iload_n 2 dX0_fallingAt_19 rfl ?_
      refine j_icmp_eq (tgt := 64) dX0_fallingAt_20 (by decide) (fun hc => ?_) (fun hc => ?_)
      · replace h := h.1 hc
        refine j_iinc 4 dX0_fallingAt_64 rfl rfl (by decide) rfl ?_
        refine j_goto (tgt := 5) dX0_fallingAt_67 (by decide) ?_
        refine j_sub [1, 2, 3, 4, 0] rfl ?_
        exact zih _ _ _ _ _ _ h
      · replace h := h.2 hc
        refine j_aload_n 0 dX0_fallingAt_23 rfl ?_
        refine j_getR (b := (2, 1, 0)) dX0_fallingAt_24 fsRX0_20 (h0 1 (by decide)) rfl rfl ?_
        refine j_iload 4 dX0_fallingAt_27 rfl ?_
        refine j_iconst (v := 0) dX0_fallingAt_29 (by decide) ?_
        refine j_invV (As := [.inl l4, .inl 0]) dX0_fallingAt_30 msRX0_43 mbX9_at rfl rfl (Nat.le_of_ble_eq_true rfl) (Nat.le_of_ble_eq_true rfl) (by omega) (h2 1 (by decide) 0 (by decide)) rfl rfl (k_X9_at (d := d + 0) h2 (by decide) h) ?_
        rintro _ zM2 zN3 ⟨zr1, rfl, h⟩
        refine j_iload_n 1 dX0_fallingAt_33 rfl ?_
        refine j_icmp_gt (tgt := 64) dX0_fallingAt_34 (by decide) (fun hc => ?_) (fun hc => ?_)
        · replace h := h.1 hc
          refine j_iinc 4 dX0_fallingAt_64 rfl rfl (by decide) rfl ?_
          refine j_goto (tgt := 5) dX0_fallingAt_67 (by decide) ?_
          refine j_sub [1, 2, 3, 4, 0] rfl ?_
          exact zih _ _ _ _ _ _ h
        · replace h := h.2 hc
          refine j_iload_n 1 dX0_fallingAt_37 rfl ?_
          refine j_aload_n 0 dX0_fallingAt_38 rfl ?_
          refine j_getR (b := (2, 1, 0)) dX0_fallingAt_39 fsRX0_20 (h0 1 (by decide)) rfl rfl ?_
          refine j_iload 4 dX0_fallingAt_42 rfl ?_
          refine j_iconst (v := 1) dX0_fallingAt_44 (by decide) ?_
          refine j_invV (As := [.inl l4, .inl 1]) dX0_fallingAt_45 msRX0_43 mbX9_at rfl rfl (Nat.le_of_ble_eq_true rfl) (Nat.le_of_ble_eq_true rfl) (by omega) (h2 1 (by decide) 0 (by decide)) rfl rfl (k_X9_at (d := d + 0) h2 (by decide) h) ?_
          rintro _ zM5 zN6 ⟨zr4, rfl, h⟩
          refine j_icmp_gt (tgt := 64) dX0_fallingAt_48 (by decide) (fun hc => ?_) (fun hc => ?_)
          · replace h := h.1 hc
            refine j_iinc 4 dX0_fallingAt_64 rfl rfl (by decide) rfl ?_
            refine j_goto (tgt := 5) dX0_fallingAt_67 (by decide) ?_
            refine j_sub [1, 2, 3, 4, 0] rfl ?_
            exact zih _ _ _ _ _ _ h
          · replace h := h.2 hc
            refine j_iload_n 3 dX0_fallingAt_51 rfl ?_
            refine j_aload_n 0 dX0_fallingAt_52 rfl ?_
            refine j_getR (b := (2, 1, 0)) dX0_fallingAt_53 fsRX0_20 (h0 1 (by decide)) rfl rfl ?_
            refine j_iload 4 dX0_fallingAt_56 rfl ?_
            refine j_iconst (v := 2) dX0_fallingAt_58 (by decide) ?_
            refine j_invV (As := [.inl l4, .inl 2]) dX0_fallingAt_59 msRX0_43 mbX9_at rfl rfl (Nat.le_of_ble_eq_true rfl) (Nat.le_of_ble_eq_true rfl) (by omega) (h2 1 (by decide) 0 (by decide)) rfl rfl (k_X9_at (d := d + 0) h2 (by decide) h) ?_
            rintro _ zM8 zN9 ⟨zr7, rfl, h⟩
            refine j_iadd dX0_fallingAt_62 ?_
            refine j_istore_n dX0_fallingAt_63 (by decide) rfl ?_
            refine j_iinc 4 dX0_fallingAt_64 rfl rfl (by decide) rfl ?_
            refine j_goto (tgt := 5) dX0_fallingAt_67 (by decide) ?_
            refine j_sub [2, 3, 4, 1, 0] rfl ?_
            exact zih _ _ _ _ _ _ h
def w_X0_fallingAt (a1 : Int32) (a2 : Int32) (M : am_I) (N : am_N) (post : Int32 → am_I → am_N → Prop) : Prop :=
  ∃ n, w_X0_fallingAt_p5 post n a1 a2 0 0 M N
set_option maxRecDepth 10000 in
theorem k_X0_fallingAt {d : Nat} {dm : List am_C} (h0 : am_d0 dm) (h2 : am_d2 dm) {a1 : Int32} {a2 : Int32} {M : am_I} {N : am_N} {post : Int32 → am_I → am_N → Prop} (h : w_X0_fallingAt a1 a2 M N post) : jg (d + 2) mX0_fallingAt dm 0 [(0, .inr (.inr (0, 0, 1))), (1, .inl a1), (2, .inl a2)] [] M N (am_pi post) := by
  refine j_iconst (v := 0) dX0_fallingAt_0 (by decide) ?_
  refine j_istore_n dX0_fallingAt_1 (by decide) rfl ?_
  refine j_iconst (v := 0) dX0_fallingAt_2 (by decide) ?_
  refine j_istore dX0_fallingAt_3 (by decide) rfl ?_
  refine j_sub [2, 3, 4, 1, 0] rfl ?_
  obtain ⟨n, h⟩ := h
  exact k_X0_fallingAt_p5 h0 h2 n _ _ _ _ _ _ h
def w_X0_hoursToRain_p6_b (post : Int32 → am_I → am_N → Prop) (zk6 : Int32 → Int32 → Int32 → am_I → am_N → Prop) (l1 : Int32) (l2 : Int32) (l3 : Int32) (M : am_I) (N : am_N) : Prop :=
  (((M (2, 1, 0) 3) ≤ l3 → post l2 M N) ∧ (¬ (M (2, 1, 0) 3) ≤ l3 → w_X9_at 1 l3 1 M N (fun zr1 zM2 zN3 => ((zr1 ≤ l1 → zk6 l1 l2 (l3 + 1) zM2 zN3) ∧ (¬ zr1 ≤ l1 → w_X9_at 1 l3 0 zM2 zN3 (fun zr4 zM5 zN6 => w_J9_max_7cf53 zr4 (l1 + 1) zM5 zN6 (fun zr7 zM8 zN9 => w_J9_min_7cf53 l2 (zr7 - l1) zM8 zN9 (fun zr10 zM11 zN12 => zk6 l1 zr10 (l3 + 1) zM11 zN12))))))))
noncomputable def w_X0_hoursToRain_p6 (post : Int32 → am_I → am_N → Prop) (n : Nat) : Int32 → Int32 → Int32 → am_I → am_N → Prop :=
  Nat.rec (motive := fun _ => Int32 → Int32 → Int32 → am_I → am_N → Prop) (fun _ _ _ _ _ => False) (fun _ zk => w_X0_hoursToRain_p6_b post zk) n
theorem w_X0_hoursToRain_p6_s (post : Int32 → am_I → am_N → Prop) (n : Nat) (l1 : Int32) (l2 : Int32) (l3 : Int32) (M : am_I) (N : am_N) : w_X0_hoursToRain_p6 post (n + 1) l1 l2 l3 M N = w_X0_hoursToRain_p6_b post (w_X0_hoursToRain_p6 post n) l1 l2 l3 M N := rfl
set_option maxRecDepth 10000 in
theorem k_X0_hoursToRain_p6 {d : Nat} {dm : List am_C} (h0 : am_d0 dm) (h2 : am_d2 dm) {post : Int32 → am_I → am_N → Prop} : ∀ (n : Nat) (l1 : Int32) (l2 : Int32) (l3 : Int32) (M : am_I) (N : am_N), w_X0_hoursToRain_p6 post n l1 l2 l3 M N → jg (d + 2) mX0_hoursToRain dm 6 [(0, .inr (.inr (0, 0, 1))), (1, .inl l1), (2, .inl l2), (3, .inl l3)] [] M N (am_pi post) := by
  intro n
  induction n with
  | zero => intro l1 l2 l3 M N h; exact h.elim
  | succ n zih =>
    intro l1 l2 l3 M N h
    replace h : w_X0_hoursToRain_p6_b post (w_X0_hoursToRain_p6 post n) l1 l2 l3 M N := h
    refine j_iload_n 3 dX0_hoursToRain_6 rfl ?_
    refine j_aload_n 0 dX0_hoursToRain_7 rfl ?_
    refine j_getR (b := (2, 1, 0)) dX0_hoursToRain_8 fsRX0_20 (h0 1 (by decide)) rfl rfl ?_
    refine j_getI dX0_hoursToRain_11 fsRX0_39 (h2 1 (by decide) 0 (by decide)) rfl ?_
    refine j_icmp_ge (tgt := 58) dX0_hoursToRain_14 (by decide) (fun hc => ?_) (fun hc => ?_)
    · replace h := h.1 hc
      refine j_iload_n 2 dX0_hoursToRain_58 rfl ?_
      exact j_iret dX0_hoursToRain_59 rfl ⟨_, rfl, h⟩
    · replace h := h.2 hc
      refine j_aload_n 0 dX0_hoursToRain_17 rfl ?_
      refine j_getR (b := (2, 1, 0)) dX0_hoursToRain_18 fsRX0_20 (h0 1 (by decide)) rfl rfl ?_
      refine j_iload_n 3 dX0_hoursToRain_21 rfl ?_
      refine j_iconst (v := 1) dX0_hoursToRain_22 (by decide) ?_
      refine j_invV (As := [.inl l3, .inl 1]) dX0_hoursToRain_23 msRX0_43 mbX9_at rfl rfl (Nat.le_of_ble_eq_true rfl) (Nat.le_of_ble_eq_true rfl) (by omega) (h2 1 (by decide) 0 (by decide)) rfl rfl (k_X9_at (d := d + 0) h2 (by decide) h) ?_
      rintro _ zM2 zN3 ⟨zr1, rfl, h⟩
      refine j_iload_n 1 dX0_hoursToRain_26 rfl ?_
      refine j_icmp_le (tgt := 52) dX0_hoursToRain_27 (by decide) (fun hc => ?_) (fun hc => ?_)
      · replace h := h.1 hc
        refine j_iinc 3 dX0_hoursToRain_52 rfl rfl (by decide) rfl ?_
        refine j_goto (tgt := 6) dX0_hoursToRain_55 (by decide) ?_
        refine j_sub [1, 2, 3, 0] rfl ?_
        exact zih _ _ _ _ _ h
      · replace h := h.2 hc
        refine j_iload_n 2 dX0_hoursToRain_30 rfl ?_
        refine j_aload_n 0 dX0_hoursToRain_31 rfl ?_
        refine j_getR (b := (2, 1, 0)) dX0_hoursToRain_32 fsRX0_20 (h0 1 (by decide)) rfl rfl ?_
        refine j_iload_n 3 dX0_hoursToRain_35 rfl ?_
        refine j_iconst (v := 0) dX0_hoursToRain_36 (by decide) ?_
        refine j_invV (As := [.inl l3, .inl 0]) dX0_hoursToRain_37 msRX0_43 mbX9_at rfl rfl (Nat.le_of_ble_eq_true rfl) (Nat.le_of_ble_eq_true rfl) (by omega) (h2 1 (by decide) 0 (by decide)) rfl rfl (k_X9_at (d := d + 0) h2 (by decide) h) ?_
        rintro _ zM5 zN6 ⟨zr4, rfl, h⟩
        refine j_iload_n 1 dX0_hoursToRain_40 rfl ?_
        refine j_iconst (v := 1) dX0_hoursToRain_41 (by decide) ?_
        refine j_iadd dX0_hoursToRain_42 ?_
        refine j_invS (As := [.inl zr4, .inl (l1 + 1)]) dX0_hoursToRain_43 msRX0_47 mbJ9_max_7cf53 rfl rfl (Nat.le_of_ble_eq_true rfl) (Nat.le_of_ble_eq_true rfl) (by omega) (k_J9_max_7cf53 (d := d + 0)  h) ?_
        rintro _ zM8 zN9 ⟨zr7, rfl, h⟩
        refine j_iload_n 1 dX0_hoursToRain_46 rfl ?_
        refine j_isub dX0_hoursToRain_47 ?_
        refine j_invS (As := [.inl l2, .inl (zr7 - l1)]) dX0_hoursToRain_48 msRX0_52 mbJ9_min_7cf53 rfl rfl (Nat.le_of_ble_eq_true rfl) (Nat.le_of_ble_eq_true rfl) (by omega) (k_J9_min_7cf53 (d := d + 0)  h) ?_
        rintro _ zM11 zN12 ⟨zr10, rfl, h⟩
        refine j_istore_n dX0_hoursToRain_51 (by decide) rfl ?_
        refine j_iinc 3 dX0_hoursToRain_52 rfl rfl (by decide) rfl ?_
        refine j_goto (tgt := 6) dX0_hoursToRain_55 (by decide) ?_
        refine j_sub [2, 3, 1, 0] rfl ?_
        exact zih _ _ _ _ _ h
def w_X0_hoursToRain (a1 : Int32) (M : am_I) (N : am_N) (post : Int32 → am_I → am_N → Prop) : Prop :=
  ∃ n, w_X0_hoursToRain_p6 post n a1 900 0 M N
set_option maxRecDepth 10000 in
theorem k_X0_hoursToRain {d : Nat} {dm : List am_C} (h0 : am_d0 dm) (h2 : am_d2 dm) {a1 : Int32} {M : am_I} {N : am_N} {post : Int32 → am_I → am_N → Prop} (h : w_X0_hoursToRain a1 M N post) : jg (d + 2) mX0_hoursToRain dm 0 [(0, .inr (.inr (0, 0, 1))), (1, .inl a1)] [] M N (am_pi post) := by
  refine j_sipush (v := 900) dX0_hoursToRain_0 (by decide) ?_
  refine j_istore_n dX0_hoursToRain_3 (by decide) rfl ?_
  refine j_iconst (v := 0) dX0_hoursToRain_4 (by decide) ?_
  refine j_istore_n dX0_hoursToRain_5 (by decide) rfl ?_
  refine j_sub [2, 3, 1, 0] rfl ?_
  obtain ⟨n, h⟩ := h
  exact k_X0_hoursToRain_p6 h0 h2 n _ _ _ _ _ h
def w_X8_armsAsDealt_p4_b (post : Int32 → am_I → am_N → Prop) (zk4 : Int32 → Int32 → am_I → am_N → Prop) (l1 : Int32) (l2 : Int32) (M : am_I) (N : am_N) : Prop :=
  (((M (2, 6, 0) 3) ≤ l2 → post l1 M N) ∧ (¬ (M (2, 6, 0) 3) ≤ l2 → w_X9_at 6 l2 0 M N (fun zr1 zM2 zN3 => ∀ zv4 : Int32, zv4 = l1 ||| (zr1 <<< (l2 &&& 31)) → zk4 zv4 (l2 + 1) zM2 zN3)))
noncomputable def w_X8_armsAsDealt_p4 (post : Int32 → am_I → am_N → Prop) (n : Nat) : Int32 → Int32 → am_I → am_N → Prop :=
  Nat.rec (motive := fun _ => Int32 → Int32 → am_I → am_N → Prop) (fun _ _ _ _ => False) (fun _ zk => w_X8_armsAsDealt_p4_b post zk) n
theorem w_X8_armsAsDealt_p4_s (post : Int32 → am_I → am_N → Prop) (n : Nat) (l1 : Int32) (l2 : Int32) (M : am_I) (N : am_N) : w_X8_armsAsDealt_p4 post (n + 1) l1 l2 M N = w_X8_armsAsDealt_p4_b post (w_X8_armsAsDealt_p4 post n) l1 l2 M N := rfl
set_option maxRecDepth 10000 in
theorem k_X8_armsAsDealt_p4 {d : Nat} {dm : List am_C} (h0 : am_d0 dm) (h2 : am_d2 dm) {post : Int32 → am_I → am_N → Prop} : ∀ (n : Nat) (l1 : Int32) (l2 : Int32) (M : am_I) (N : am_N), w_X8_armsAsDealt_p4 post n l1 l2 M N → jg (d + 2) mX8_armsAsDealt dm 4 [(0, .inr (.inr (0, 0, 15))), (1, .inl l1), (2, .inl l2)] [] M N (am_pi post) := by
  intro n
  induction n with
  | zero => intro l1 l2 M N h; exact h.elim
  | succ n zih =>
    intro l1 l2 M N h
    replace h : w_X8_armsAsDealt_p4_b post (w_X8_armsAsDealt_p4 post n) l1 l2 M N := h
    refine j_iload_n 2 dX8_armsAsDealt_4 rfl ?_
    refine j_aload_n 0 dX8_armsAsDealt_5 rfl ?_
    refine j_getR (b := (2, 6, 0)) dX8_armsAsDealt_6 fsRX8_14 (h0 15 (by decide)) rfl rfl ?_
    refine j_getI dX8_armsAsDealt_9 fsRX8_38 (h2 6 (by decide) 0 (by decide)) rfl ?_
    refine j_icmp_ge (tgt := 35) dX8_armsAsDealt_12 (by decide) (fun hc => ?_) (fun hc => ?_)
    · replace h := h.1 hc
      refine j_iload_n 1 dX8_armsAsDealt_35 rfl ?_
      exact j_iret dX8_armsAsDealt_36 rfl ⟨_, rfl, h⟩
    · replace h := h.2 hc
      refine j_iload_n 1 dX8_armsAsDealt_15 rfl ?_
      refine j_aload_n 0 dX8_armsAsDealt_16 rfl ?_
      refine j_getR (b := (2, 6, 0)) dX8_armsAsDealt_17 fsRX8_14 (h0 15 (by decide)) rfl rfl ?_
      refine j_iload_n 2 dX8_armsAsDealt_20 rfl ?_
      refine j_iconst (v := 0) dX8_armsAsDealt_21 (by decide) ?_
      refine j_invV (As := [.inl l2, .inl 0]) dX8_armsAsDealt_22 msRX8_42 mbX9_at rfl rfl (Nat.le_of_ble_eq_true rfl) (Nat.le_of_ble_eq_true rfl) (by omega) (h2 6 (by decide) 0 (by decide)) rfl rfl (k_X9_at (d := d + 0) h2 (by decide) h) ?_
      rintro _ zM2 zN3 ⟨zr1, rfl, h⟩
      refine j_iload_n 2 dX8_armsAsDealt_25 rfl ?_
      refine j_ishl dX8_armsAsDealt_26 ?_
      refine j_ior dX8_armsAsDealt_27 ?_
      refine j_topi (fun zv4 hzv4 => ?_)
      replace h := h zv4 hzv4
      refine j_istore_n dX8_armsAsDealt_28 (by decide) rfl ?_
      refine j_iinc 2 dX8_armsAsDealt_29 rfl rfl (by decide) rfl ?_
      refine j_goto (tgt := 4) dX8_armsAsDealt_32 (by decide) ?_
      refine j_sub [2, 1, 0] rfl ?_
      exact zih _ _ _ _ h
def w_X8_armsAsDealt (M : am_I) (N : am_N) (post : Int32 → am_I → am_N → Prop) : Prop :=
  ∃ n, w_X8_armsAsDealt_p4 post n 0 0 M N
set_option maxRecDepth 10000 in
theorem k_X8_armsAsDealt {d : Nat} {dm : List am_C} (h0 : am_d0 dm) (h2 : am_d2 dm) {M : am_I} {N : am_N} {post : Int32 → am_I → am_N → Prop} (h : w_X8_armsAsDealt M N post) : jg (d + 2) mX8_armsAsDealt dm 0 [(0, .inr (.inr (0, 0, 15)))] [] M N (am_pi post) := by
  refine j_iconst (v := 0) dX8_armsAsDealt_0 (by decide) ?_
  refine j_istore_n dX8_armsAsDealt_1 (by decide) rfl ?_
  refine j_iconst (v := 0) dX8_armsAsDealt_2 (by decide) ?_
  refine j_istore_n dX8_armsAsDealt_3 (by decide) rfl ?_
  refine j_sub [2, 1, 0] rfl ?_
  obtain ⟨n, h⟩ := h
  exact k_X8_armsAsDealt_p4 h0 h2 n _ _ _ _ h
def w_X8_leadOf_p13_b (post : Int32 → am_I → am_N → Prop) (zk13 : Int32 → Int32 → Int32 → Int32 → Int32 → am_I → am_N → Prop) (l1 : Int32) (l2 : Int32) (l3 : Int32) (l4 : Int32) (l5 : Int32) (M : am_I) (N : am_N) : Prop :=
  (((M (2, 6, 0) 3) ≤ l5 → post ((l3 * ((M (2, 6, 0) 3) - l2)) - (l4 * l2)) M N) ∧ (¬ (M (2, 6, 0) 3) ≤ l5 → ((¬ ((l1 >>> (l5 &&& 31)) &&& 1) = 1 → w_X9_at 6 l5 1 M N (fun zr1 zM2 zN3 => zk13 l1 l2 l3 (l4 + zr1) (l5 + 1) zM2 zN3)) ∧ (((l1 >>> (l5 &&& 31)) &&& 1) = 1 → w_X9_at 6 l5 1 M N (fun zr4 zM5 zN6 => zk13 l1 l2 (l3 + zr4) l4 (l5 + 1) zM5 zN6)))))
noncomputable def w_X8_leadOf_p13 (post : Int32 → am_I → am_N → Prop) (n : Nat) : Int32 → Int32 → Int32 → Int32 → Int32 → am_I → am_N → Prop :=
  Nat.rec (motive := fun _ => Int32 → Int32 → Int32 → Int32 → Int32 → am_I → am_N → Prop) (fun _ _ _ _ _ _ _ => False) (fun _ zk => w_X8_leadOf_p13_b post zk) n
theorem w_X8_leadOf_p13_s (post : Int32 → am_I → am_N → Prop) (n : Nat) (l1 : Int32) (l2 : Int32) (l3 : Int32) (l4 : Int32) (l5 : Int32) (M : am_I) (N : am_N) : w_X8_leadOf_p13 post (n + 1) l1 l2 l3 l4 l5 M N = w_X8_leadOf_p13_b post (w_X8_leadOf_p13 post n) l1 l2 l3 l4 l5 M N := rfl
set_option maxRecDepth 10000 in
theorem k_X8_leadOf_p13 {d : Nat} {dm : List am_C} (h0 : am_d0 dm) (h2 : am_d2 dm) {post : Int32 → am_I → am_N → Prop} : ∀ (n : Nat) (l1 : Int32) (l2 : Int32) (l3 : Int32) (l4 : Int32) (l5 : Int32) (M : am_I) (N : am_N), w_X8_leadOf_p13 post n l1 l2 l3 l4 l5 M N → jg (d + 2) mX8_leadOf dm 13 [(0, .inr (.inr (0, 0, 15))), (1, .inl l1), (2, .inl l2), (3, .inl l3), (4, .inl l4), (5, .inl l5)] [] M N (am_pi post) := by
  intro n
  induction n with
  | zero => intro l1 l2 l3 l4 l5 M N h; exact h.elim
  | succ n zih =>
    intro l1 l2 l3 l4 l5 M N h
    replace h : w_X8_leadOf_p13_b post (w_X8_leadOf_p13 post n) l1 l2 l3 l4 l5 M N := h
    refine j_iload 5 dX8_leadOf_13 rfl ?_
    refine j_aload_n 0 dX8_leadOf_15 rfl ?_
    refine j_getR (b := (2, 6, 0)) dX8_leadOf_16 fsRX8_14 (h0 15 (by decide)) rfl rfl ?_
    refine j_getI dX8_leadOf_19 fsRX8_38 (h2 6 (by decide) 0 (by decide)) rfl ?_
    refine j_icmp_ge (tgt := 72) dX8_leadOf_22 (by decide) (fun hc => ?_) (fun hc => ?_)
    · replace h := h.1 hc
      refine j_iload_n 3 dX8_leadOf_72 rfl ?_
      refine j_aload_n 0 dX8_leadOf_73 rfl ?_
      refine j_getR (b := (2, 6, 0)) dX8_leadOf_74 fsRX8_14 (h0 15 (by decide)) rfl rfl ?_
      refine j_getI dX8_leadOf_77 fsRX8_38 (h2 6 (by decide) 0 (by decide)) rfl ?_
      refine j_iload_n 2 dX8_leadOf_80 rfl ?_
      refine j_isub dX8_leadOf_81 ?_
      refine j_imul dX8_leadOf_82 ?_
      refine j_iload 4 dX8_leadOf_83 rfl ?_
      refine j_iload_n 2 dX8_leadOf_85 rfl ?_
      refine j_imul dX8_leadOf_86 ?_
      refine j_isub dX8_leadOf_87 ?_
      exact j_iret dX8_leadOf_88 rfl ⟨_, rfl, h⟩
    · replace h := h.2 hc
      refine j_iload_n 1 dX8_leadOf_25 rfl ?_
      refine j_iload 5 dX8_leadOf_26 rfl ?_
      refine j_ishr dX8_leadOf_28 ?_
      refine j_iconst (v := 1) dX8_leadOf_29 (by decide) ?_
      refine j_iand dX8_leadOf_30 ?_
      refine j_iconst (v := 1) dX8_leadOf_31 (by decide) ?_
      refine j_icmp_ne (tgt := 51) dX8_leadOf_32 (by decide) (fun hc => ?_) (fun hc => ?_)
      · replace h := h.1 hc
        refine j_iload 4 dX8_leadOf_51 rfl ?_
        refine j_aload_n 0 dX8_leadOf_53 rfl ?_
        refine j_getR (b := (2, 6, 0)) dX8_leadOf_54 fsRX8_14 (h0 15 (by decide)) rfl rfl ?_
        refine j_iload 5 dX8_leadOf_57 rfl ?_
        refine j_iconst (v := 1) dX8_leadOf_59 (by decide) ?_
        refine j_invV (As := [.inl l5, .inl 1]) dX8_leadOf_60 msRX8_42 mbX9_at rfl rfl (Nat.le_of_ble_eq_true rfl) (Nat.le_of_ble_eq_true rfl) (by omega) (h2 6 (by decide) 0 (by decide)) rfl rfl (k_X9_at (d := d + 0) h2 (by decide) h) ?_
        rintro _ zM2 zN3 ⟨zr1, rfl, h⟩
        refine j_iadd dX8_leadOf_63 ?_
        refine j_istore dX8_leadOf_64 (by decide) rfl ?_
        refine j_iinc 5 dX8_leadOf_66 rfl rfl (by decide) rfl ?_
        refine j_goto (tgt := 13) dX8_leadOf_69 (by decide) ?_
        refine j_sub [2, 3, 4, 5, 1, 0] rfl ?_
        exact zih _ _ _ _ _ _ _ h
      · replace h := h.2 hc
        refine j_iload_n 3 dX8_leadOf_35 rfl ?_
        refine j_aload_n 0 dX8_leadOf_36 rfl ?_
        refine j_getR (b := (2, 6, 0)) dX8_leadOf_37 fsRX8_14 (h0 15 (by decide)) rfl rfl ?_
        refine j_iload 5 dX8_leadOf_40 rfl ?_
        refine j_iconst (v := 1) dX8_leadOf_42 (by decide) ?_
        refine j_invV (As := [.inl l5, .inl 1]) dX8_leadOf_43 msRX8_42 mbX9_at rfl rfl (Nat.le_of_ble_eq_true rfl) (Nat.le_of_ble_eq_true rfl) (by omega) (h2 6 (by decide) 0 (by decide)) rfl rfl (k_X9_at (d := d + 0) h2 (by decide) h) ?_
        rintro _ zM5 zN6 ⟨zr4, rfl, h⟩
        refine j_iadd dX8_leadOf_46 ?_
        refine j_istore_n dX8_leadOf_47 (by decide) rfl ?_
        refine j_goto (tgt := 66) dX8_leadOf_48 (by decide) ?_
        refine j_iinc 5 dX8_leadOf_66 rfl rfl (by decide) rfl ?_
        refine j_goto (tgt := 13) dX8_leadOf_69 (by decide) ?_
        refine j_sub [2, 3, 4, 1, 5, 0] rfl ?_
        exact zih _ _ _ _ _ _ _ h
def w_X8_leadOf (a1 : Int32) (M : am_I) (N : am_N) (post : Int32 → am_I → am_N → Prop) : Prop :=
  w_J6_bitCount_0f7a4 a1 M N (fun zr1 zM2 zN3 => ∃ n, w_X8_leadOf_p13 post n a1 zr1 0 0 0 zM2 zN3)
set_option maxRecDepth 10000 in
theorem k_X8_leadOf {d : Nat} {dm : List am_C} (h0 : am_d0 dm) (h2 : am_d2 dm) {a1 : Int32} {M : am_I} {N : am_N} {post : Int32 → am_I → am_N → Prop} (h : w_X8_leadOf a1 M N post) : jg (d + 2) mX8_leadOf dm 0 [(0, .inr (.inr (0, 0, 15))), (1, .inl a1)] [] M N (am_pi post) := by
  refine j_iload_n 1 dX8_leadOf_0 rfl ?_
  refine j_invS (As := [.inl a1]) dX8_leadOf_1 msRX8_33 mbJ6_bitCount_0f7a4 rfl rfl (Nat.le_of_ble_eq_true rfl) (Nat.le_of_ble_eq_true rfl) (by omega) (k_J6_bitCount_0f7a4 (d := d + 0)  h) ?_
  rintro _ zM2 zN3 ⟨zr1, rfl, h⟩
  refine j_istore_n dX8_leadOf_4 (by decide) rfl ?_
  refine j_iconst (v := 0) dX8_leadOf_5 (by decide) ?_
  refine j_istore_n dX8_leadOf_6 (by decide) rfl ?_
  refine j_iconst (v := 0) dX8_leadOf_7 (by decide) ?_
  refine j_istore dX8_leadOf_8 (by decide) rfl ?_
  refine j_iconst (v := 0) dX8_leadOf_10 (by decide) ?_
  refine j_istore dX8_leadOf_11 (by decide) rfl ?_
  refine j_sub [4, 5, 3, 2, 1, 0] rfl ?_
  obtain ⟨n, h⟩ := h
  exact k_X8_leadOf_p13 h0 h2 n _ _ _ _ _ _ _ h
def w_X9_add (t : Nat) (a1 : Int32) (a2 : Int32) (a3 : Int32) (a4 : Int32) (a5 : Int32) (a6 : Int32) (M : am_I) (N : am_N) (post : am_I → am_N → Prop) : Prop :=
  w_X9_isFull t M N (fun zr1 zM2 zN3 => ((zr1 = 0 → w_X9_put t 0 a1 (am_u zM2 (2, t, 0) 3 ((zM2 (2, t, 0) 3) + 1)) zN3 (fun zM4 zN5 => w_X9_put t 1 a2 zM4 zN5 (fun zM6 zN7 => w_X9_put t 2 a3 zM6 zN7 (fun zM8 zN9 => w_X9_put t 3 a4 zM8 zN9 (fun zM10 zN11 => w_X9_put t 4 a5 zM10 zN11 (fun zM12 zN13 => w_X9_put t 5 a6 zM12 zN13 (fun zM14 zN15 => post zM14 zN15))))))) ∧ (¬ zr1 = 0 → post zM2 zN3)))
set_option maxRecDepth 10000 in
theorem k_X9_add {d : Nat} {dm : List am_C} {t : Nat} (h2 : am_d2 dm) (ht : t < 7) {a1 : Int32} {a2 : Int32} {a3 : Int32} {a4 : Int32} {a5 : Int32} {a6 : Int32} {M : am_I} {N : am_N} {post : am_I → am_N → Prop} (h : w_X9_add t a1 a2 a3 a4 a5 a6 M N post) : jg (d + 2) mX9_add dm 0 [(0, .inr (.inr (2, t, 0))), (1, .inl a1), (2, .inl a2), (3, .inl a3), (4, .inl a4), (5, .inl a5), (6, .inl a6)] [] M N (am_pv post) := by
  refine j_aload_n 0 dX9_add_0 rfl ?_
  refine j_invV (As := []) dX9_add_1 msRX9_23 mbX9_isFull rfl rfl (Nat.le_of_ble_eq_true rfl) (Nat.le_of_ble_eq_true rfl) (by omega) (h2 t ht 0 (by decide)) rfl rfl (k_X9_isFull (d := d + 0) h2 ht h) ?_
  rintro _ zM2 zN3 ⟨zr1, rfl, h⟩
  refine j_if_eq (tgt := 8) dX9_add_4 (by decide) (fun hc => ?_) (fun hc => ?_)
  · replace h := h.1 hc
    refine j_aload_n 0 dX9_add_8 rfl ?_
    refine j_dup dX9_add_9 rfl ?_
    refine j_getI dX9_add_10 fsRX9_20 (h2 t ht 0 (by decide)) rfl ?_
    refine j_iconst (v := 1) dX9_add_13 (by decide) ?_
    refine j_iadd dX9_add_14 ?_
    refine j_putI dX9_add_15 fwRX9_20 (h2 t ht 0 (by decide)) rfl ?_
    refine j_aload_n 0 dX9_add_18 rfl ?_
    refine j_iconst (v := 0) dX9_add_19 (by decide) ?_
    refine j_iload_n 1 dX9_add_20 rfl ?_
    refine j_invV (As := [.inl 0, .inl a1]) dX9_add_21 msRX9_27 mbX9_put rfl rfl (Nat.le_of_ble_eq_true rfl) (Nat.le_of_ble_eq_true rfl) (by omega) (h2 t ht 0 (by decide)) rfl rfl (k_X9_put (d := d + 0) h2 ht h) ?_
    rintro _ zM4 zN5 ⟨rfl, h⟩
    refine j_aload_n 0 dX9_add_24 rfl ?_
    refine j_iconst (v := 1) dX9_add_25 (by decide) ?_
    refine j_iload_n 2 dX9_add_26 rfl ?_
    refine j_invV (As := [.inl 1, .inl a2]) dX9_add_27 msRX9_27 mbX9_put rfl rfl (Nat.le_of_ble_eq_true rfl) (Nat.le_of_ble_eq_true rfl) (by omega) (h2 t ht 0 (by decide)) rfl rfl (k_X9_put (d := d + 0) h2 ht h) ?_
    rintro _ zM6 zN7 ⟨rfl, h⟩
    refine j_aload_n 0 dX9_add_30 rfl ?_
    refine j_iconst (v := 2) dX9_add_31 (by decide) ?_
    refine j_iload_n 3 dX9_add_32 rfl ?_
    refine j_invV (As := [.inl 2, .inl a3]) dX9_add_33 msRX9_27 mbX9_put rfl rfl (Nat.le_of_ble_eq_true rfl) (Nat.le_of_ble_eq_true rfl) (by omega) (h2 t ht 0 (by decide)) rfl rfl (k_X9_put (d := d + 0) h2 ht h) ?_
    rintro _ zM8 zN9 ⟨rfl, h⟩
    refine j_aload_n 0 dX9_add_36 rfl ?_
    refine j_iconst (v := 3) dX9_add_37 (by decide) ?_
    refine j_iload 4 dX9_add_38 rfl ?_
    refine j_invV (As := [.inl 3, .inl a4]) dX9_add_40 msRX9_27 mbX9_put rfl rfl (Nat.le_of_ble_eq_true rfl) (Nat.le_of_ble_eq_true rfl) (by omega) (h2 t ht 0 (by decide)) rfl rfl (k_X9_put (d := d + 0) h2 ht h) ?_
    rintro _ zM10 zN11 ⟨rfl, h⟩
    refine j_aload_n 0 dX9_add_43 rfl ?_
    refine j_iconst (v := 4) dX9_add_44 (by decide) ?_
    refine j_iload 5 dX9_add_45 rfl ?_
    refine j_invV (As := [.inl 4, .inl a5]) dX9_add_47 msRX9_27 mbX9_put rfl rfl (Nat.le_of_ble_eq_true rfl) (Nat.le_of_ble_eq_true rfl) (by omega) (h2 t ht 0 (by decide)) rfl rfl (k_X9_put (d := d + 0) h2 ht h) ?_
    rintro _ zM12 zN13 ⟨rfl, h⟩
    refine j_aload_n 0 dX9_add_50 rfl ?_
    refine j_iconst (v := 5) dX9_add_51 (by decide) ?_
    refine j_iload 6 dX9_add_52 rfl ?_
    refine j_invV (As := [.inl 5, .inl a6]) dX9_add_54 msRX9_27 mbX9_put rfl rfl (Nat.le_of_ble_eq_true rfl) (Nat.le_of_ble_eq_true rfl) (by omega) (h2 t ht 0 (by decide)) rfl rfl (k_X9_put (d := d + 0) h2 ht h) ?_
    rintro _ zM14 zN15 ⟨rfl, h⟩
    exact j_vret dX9_add_57 rfl ⟨rfl, h⟩
  · replace h := h.2 hc
    exact j_vret dX9_add_7 rfl ⟨rfl, h⟩
def w_X8_lead (M : am_I) (N : am_N) (post : Int32 → am_I → am_N → Prop) : Prop :=
  w_X8_armsAsDealt M N (fun zr1 zM2 zN3 => w_X8_leadOf zr1 zM2 zN3 (fun zr4 zM5 zN6 => post zr4 zM5 zN6))
set_option maxRecDepth 10000 in
theorem k_X8_lead {d : Nat} {dm : List am_C} (h0 : am_d0 dm) (h2 : am_d2 dm) {M : am_I} {N : am_N} {post : Int32 → am_I → am_N → Prop} (h : w_X8_lead M N post) : jg (d + 3) mX8_lead dm 0 [(0, .inr (.inr (0, 0, 15)))] [] M N (am_pi post) := by
  refine j_aload_n 0 dX8_lead_0 rfl ?_
  refine j_aload_n 0 dX8_lead_1 rfl ?_
  refine j_invV (As := []) dX8_lead_2 msRX8_18 mbX8_armsAsDealt rfl rfl (Nat.le_of_ble_eq_true rfl) (Nat.le_of_ble_eq_true rfl) (by omega) (h0 15 (by decide)) rfl rfl (k_X8_armsAsDealt (d := d + 0) h0 h2 h) ?_
  rintro _ zM2 zN3 ⟨zr1, rfl, h⟩
  refine j_invV (As := [.inl zr1]) dX8_lead_5 msRX8_22 mbX8_leadOf rfl rfl (Nat.le_of_ble_eq_true rfl) (Nat.le_of_ble_eq_true rfl) (by omega) (h0 15 (by decide)) rfl rfl (k_X8_leadOf (d := d + 0) h0 h2 h) ?_
  rintro _ zM5 zN6 ⟨zr4, rfl, h⟩
  exact j_iret dX8_lead_8 rfl ⟨_, rfl, h⟩
def w_X8_waysWithLead_p13_b (post : Int32 → am_I → am_N → Prop) (zk13 : Int32 → Int32 → Int32 → Int32 → am_I → am_N → Prop) (l1 : Int32) (l2 : Int32) (l3 : Int32) (l4 : Int32) (M : am_I) (N : am_N) : Prop :=
  ((((1 : Int32) <<< ((M (2, 6, 0) 3) &&& 31)) ≤ l4 → post l3 M N) ∧ (¬ ((1 : Int32) <<< ((M (2, 6, 0) 3) &&& 31)) ≤ l4 → w_J6_bitCount_0f7a4 l4 M N (fun zr1 zM2 zN3 => ((¬ zr1 = l2 → zk13 l1 l2 l3 (l4 + 1) zM2 zN3) ∧ (zr1 = l2 → w_X8_leadOf l4 zM2 zN3 (fun zr4 zM5 zN6 => ((zr4 < l1 → zk13 l1 l2 l3 (l4 + 1) zM5 zN6) ∧ (¬ zr4 < l1 → zk13 l1 l2 (l3 + 1) (l4 + 1) zM5 zN6))))))))
noncomputable def w_X8_waysWithLead_p13 (post : Int32 → am_I → am_N → Prop) (n : Nat) : Int32 → Int32 → Int32 → Int32 → am_I → am_N → Prop :=
  Nat.rec (motive := fun _ => Int32 → Int32 → Int32 → Int32 → am_I → am_N → Prop) (fun _ _ _ _ _ _ => False) (fun _ zk => w_X8_waysWithLead_p13_b post zk) n
theorem w_X8_waysWithLead_p13_s (post : Int32 → am_I → am_N → Prop) (n : Nat) (l1 : Int32) (l2 : Int32) (l3 : Int32) (l4 : Int32) (M : am_I) (N : am_N) : w_X8_waysWithLead_p13 post (n + 1) l1 l2 l3 l4 M N = w_X8_waysWithLead_p13_b post (w_X8_waysWithLead_p13 post n) l1 l2 l3 l4 M N := rfl
set_option maxRecDepth 10000 in
theorem k_X8_waysWithLead_p13 {d : Nat} {dm : List am_C} (h0 : am_d0 dm) (h2 : am_d2 dm) {post : Int32 → am_I → am_N → Prop} : ∀ (n : Nat) (l1 : Int32) (l2 : Int32) (l3 : Int32) (l4 : Int32) (M : am_I) (N : am_N), w_X8_waysWithLead_p13 post n l1 l2 l3 l4 M N → jg (d + 3) mX8_waysWithLead dm 13 [(0, .inr (.inr (0, 0, 15))), (1, .inl l1), (2, .inl l2), (3, .inl l3), (4, .inl l4)] [] M N (am_pi post) := by
  intro n
  induction n with
  | zero => intro l1 l2 l3 l4 M N h; exact h.elim
  | succ n zih =>
    intro l1 l2 l3 l4 M N h
    replace h : w_X8_waysWithLead_p13_b post (w_X8_waysWithLead_p13 post n) l1 l2 l3 l4 M N := h
    refine j_iload 4 dX8_waysWithLead_13 rfl ?_
    refine j_iconst (v := 1) dX8_waysWithLead_15 (by decide) ?_
    refine j_aload_n 0 dX8_waysWithLead_16 rfl ?_
    refine j_getR (b := (2, 6, 0)) dX8_waysWithLead_17 fsRX8_14 (h0 15 (by decide)) rfl rfl ?_
    refine j_getI dX8_waysWithLead_20 fsRX8_38 (h2 6 (by decide) 0 (by decide)) rfl ?_
    refine j_ishl dX8_waysWithLead_23 ?_
    refine j_icmp_ge (tgt := 55) dX8_waysWithLead_24 (by decide) (fun hc => ?_) (fun hc => ?_)
    · replace h := h.1 hc
      refine j_iload_n 3 dX8_waysWithLead_55 rfl ?_
      exact j_iret dX8_waysWithLead_56 rfl ⟨_, rfl, h⟩
    · replace h := h.2 hc
      refine j_iload 4 dX8_waysWithLead_27 rfl ?_
      refine j_invS (As := [.inl l4]) dX8_waysWithLead_29 msRX8_33 mbJ6_bitCount_0f7a4 rfl rfl (Nat.le_of_ble_eq_true rfl) (Nat.le_of_ble_eq_true rfl) (by omega) (k_J6_bitCount_0f7a4 (d := d + 1)  h) ?_
      rintro _ zM2 zN3 ⟨zr1, rfl, h⟩
      refine j_iload_n 2 dX8_waysWithLead_32 rfl ?_
      refine j_icmp_ne (tgt := 49) dX8_waysWithLead_33 (by decide) (fun hc => ?_) (fun hc => ?_)
      · replace h := h.1 hc
        refine j_iinc 4 dX8_waysWithLead_49 rfl rfl (by decide) rfl ?_
        refine j_goto (tgt := 13) dX8_waysWithLead_52 (by decide) ?_
        refine j_sub [1, 2, 3, 4, 0] rfl ?_
        exact zih _ _ _ _ _ _ h
      · replace h := h.2 hc
        refine j_aload_n 0 dX8_waysWithLead_36 rfl ?_
        refine j_iload 4 dX8_waysWithLead_37 rfl ?_
        refine j_invV (As := [.inl l4]) dX8_waysWithLead_39 msRX8_22 mbX8_leadOf rfl rfl (Nat.le_of_ble_eq_true rfl) (Nat.le_of_ble_eq_true rfl) (by omega) (h0 15 (by decide)) rfl rfl (k_X8_leadOf (d := d + 0) h0 h2 h) ?_
        rintro _ zM5 zN6 ⟨zr4, rfl, h⟩
        refine j_iload_n 1 dX8_waysWithLead_42 rfl ?_
        refine j_icmp_lt (tgt := 49) dX8_waysWithLead_43 (by decide) (fun hc => ?_) (fun hc => ?_)
        · replace h := h.1 hc
          refine j_iinc 4 dX8_waysWithLead_49 rfl rfl (by decide) rfl ?_
          refine j_goto (tgt := 13) dX8_waysWithLead_52 (by decide) ?_
          refine j_sub [1, 2, 3, 4, 0] rfl ?_
          exact zih _ _ _ _ _ _ h
        · replace h := h.2 hc
          refine j_iinc 3 dX8_waysWithLead_46 rfl rfl (by decide) rfl ?_
          refine j_iinc 4 dX8_waysWithLead_49 rfl rfl (by decide) rfl ?_
          refine j_goto (tgt := 13) dX8_waysWithLead_52 (by decide) ?_
          refine j_sub [2, 3, 4, 1, 0] rfl ?_
          exact zih _ _ _ _ _ _ h
def w_X8_waysWithLead (a1 : Int32) (M : am_I) (N : am_N) (post : Int32 → am_I → am_N → Prop) : Prop :=
  w_X8_armsAsDealt M N (fun zr1 zM2 zN3 => w_J6_bitCount_0f7a4 zr1 zM2 zN3 (fun zr4 zM5 zN6 => ∃ n, w_X8_waysWithLead_p13 post n a1 zr4 0 0 zM5 zN6))
set_option maxRecDepth 10000 in
theorem k_X8_waysWithLead {d : Nat} {dm : List am_C} (h0 : am_d0 dm) (h2 : am_d2 dm) {a1 : Int32} {M : am_I} {N : am_N} {post : Int32 → am_I → am_N → Prop} (h : w_X8_waysWithLead a1 M N post) : jg (d + 3) mX8_waysWithLead dm 0 [(0, .inr (.inr (0, 0, 15))), (1, .inl a1)] [] M N (am_pi post) := by
  refine j_aload_n 0 dX8_waysWithLead_0 rfl ?_
  refine j_invV (As := []) dX8_waysWithLead_1 msRX8_18 mbX8_armsAsDealt rfl rfl (Nat.le_of_ble_eq_true rfl) (Nat.le_of_ble_eq_true rfl) (by omega) (h0 15 (by decide)) rfl rfl (k_X8_armsAsDealt (d := d + 0) h0 h2 h) ?_
  rintro _ zM2 zN3 ⟨zr1, rfl, h⟩
  refine j_invS (As := [.inl zr1]) dX8_waysWithLead_4 msRX8_33 mbJ6_bitCount_0f7a4 rfl rfl (Nat.le_of_ble_eq_true rfl) (Nat.le_of_ble_eq_true rfl) (by omega) (k_J6_bitCount_0f7a4 (d := d + 1)  h) ?_
  rintro _ zM5 zN6 ⟨zr4, rfl, h⟩
  refine j_istore_n dX8_waysWithLead_7 (by decide) rfl ?_
  refine j_iconst (v := 0) dX8_waysWithLead_8 (by decide) ?_
  refine j_istore_n dX8_waysWithLead_9 (by decide) rfl ?_
  refine j_iconst (v := 0) dX8_waysWithLead_10 (by decide) ?_
  refine j_istore dX8_waysWithLead_11 (by decide) rfl ?_
  refine j_sub [3, 4, 2, 1, 0] rfl ?_
  obtain ⟨n, h⟩ := h
  exact k_X8_waysWithLead_p13 h0 h2 n _ _ _ _ _ _ h
def w_X8_allWays (M : am_I) (N : am_N) (post : Int32 → am_I → am_N → Prop) : Prop :=
  w_X8_waysWithLead (-2000000000) M N (fun zr1 zM2 zN3 => post zr1 zM2 zN3)
set_option maxRecDepth 10000 in
theorem k_X8_allWays {d : Nat} {dm : List am_C} (h0 : am_d0 dm) (h2 : am_d2 dm) {M : am_I} {N : am_N} {post : Int32 → am_I → am_N → Prop} (h : w_X8_allWays M N post) : jg (d + 4) mX8_allWays dm 0 [(0, .inr (.inr (0, 0, 15)))] [] M N (am_pi post) := by
  refine j_aload_n 0 dX8_allWays_0 rfl ?_
  refine j_ldc (v := (-2000000000)) dX8_allWays_1 cw_1051 ?_
  refine j_invV (As := [.inl (-2000000000)]) dX8_allWays_3 msRX8_27 mbX8_waysWithLead rfl rfl (Nat.le_of_ble_eq_true rfl) (Nat.le_of_ble_eq_true rfl) (by omega) (h0 15 (by decide)) rfl rfl (k_X8_waysWithLead (d := d + 0) h0 h2 h) ?_
  rintro _ zM2 zN3 ⟨zr1, rfl, h⟩
  exact j_iret dX8_allWays_6 rfl ⟨_, rfl, h⟩
def w_X8_waysAsGood (M : am_I) (N : am_N) (post : Int32 → am_I → am_N → Prop) : Prop :=
  w_X8_lead M N (fun zr1 zM2 zN3 => w_X8_waysWithLead zr1 zM2 zN3 (fun zr4 zM5 zN6 => post zr4 zM5 zN6))
set_option maxRecDepth 10000 in
theorem k_X8_waysAsGood {d : Nat} {dm : List am_C} (h0 : am_d0 dm) (h2 : am_d2 dm) {M : am_I} {N : am_N} {post : Int32 → am_I → am_N → Prop} (h : w_X8_waysAsGood M N post) : jg (d + 4) mX8_waysAsGood dm 0 [(0, .inr (.inr (0, 0, 15)))] [] M N (am_pi post) := by
  refine j_aload_n 0 dX8_waysAsGood_0 rfl ?_
  refine j_aload_n 0 dX8_waysAsGood_1 rfl ?_
  refine j_invV (As := []) dX8_waysAsGood_2 msRX8_30 mbX8_lead rfl rfl (Nat.le_of_ble_eq_true rfl) (Nat.le_of_ble_eq_true rfl) (by omega) (h0 15 (by decide)) rfl rfl (k_X8_lead (d := d + 0) h0 h2 h) ?_
  rintro _ zM2 zN3 ⟨zr1, rfl, h⟩
  refine j_invV (As := [.inl zr1]) dX8_waysAsGood_5 msRX8_27 mbX8_waysWithLead rfl rfl (Nat.le_of_ble_eq_true rfl) (Nat.le_of_ble_eq_true rfl) (by omega) (h0 15 (by decide)) rfl rfl (k_X8_waysWithLead (d := d + 0) h0 h2 h) ?_
  rintro _ zM5 zN6 ⟨zr4, rfl, h⟩
  exact j_iret dX8_waysAsGood_8 rfl ⟨_, rfl, h⟩
