/-! ===== methods: 24.model2 ===== -/
theorem dX12_isSpot_0 : decode mX12_isSpot.2.1 0 = .ok (.iconst 0, 1) := by decide +kernel
theorem dX12_isSpot_1 : decode mX12_isSpot.2.1 1 = .ok (.istore_n 3, 1) := by decide +kernel
theorem dX12_isSpot_2 : decode mX12_isSpot.2.1 2 = .ok (.iload_n 3, 1) := by decide +kernel
theorem dX12_isSpot_3 : decode mX12_isSpot.2.1 3 = .ok (.bipush 64, 2) := by decide +kernel
theorem dX12_isSpot_5 : decode mX12_isSpot.2.1 5 = .ok (.if_icmp .ge 32, 3) := by decide +kernel
theorem dX12_isSpot_8 : decode mX12_isSpot.2.1 8 = .ok (.aload_n 0, 1) := by decide +kernel
theorem dX12_isSpot_9 : decode mX12_isSpot.2.1 9 = .ok (.getfield 100, 3) := by decide +kernel
theorem dX12_isSpot_12 : decode mX12_isSpot.2.1 12 = .ok (.iload_n 3, 1) := by decide +kernel
theorem dX12_isSpot_13 : decode mX12_isSpot.2.1 13 = .ok (.iload_n 3, 1) := by decide +kernel
theorem dX12_isSpot_14 : decode mX12_isSpot.2.1 14 = .ok (.iload_n 1, 1) := by decide +kernel
theorem dX12_isSpot_15 : decode mX12_isSpot.2.1 15 = .ok (.if_icmp .ne 7, 3) := by decide +kernel
theorem dX12_isSpot_18 : decode mX12_isSpot.2.1 18 = .ok (.iconst 0, 1) := by decide +kernel
theorem dX12_isSpot_19 : decode mX12_isSpot.2.1 19 = .ok (.goto 4, 3) := by decide +kernel
theorem dX12_isSpot_22 : decode mX12_isSpot.2.1 22 = .ok (.iconst (-1), 1) := by decide +kernel
theorem dX12_isSpot_23 : decode mX12_isSpot.2.1 23 = .ok (.iastore, 1) := by decide +kernel
theorem dX12_isSpot_24 : decode mX12_isSpot.2.1 24 = .ok (.aload_n 0, 1) := by decide +kernel
theorem dX12_isSpot_25 : decode mX12_isSpot.2.1 25 = .ok (.getfield 103, 3) := by decide +kernel
theorem dX12_isSpot_28 : decode mX12_isSpot.2.1 28 = .ok (.iload_n 3, 1) := by decide +kernel
theorem dX12_isSpot_29 : decode mX12_isSpot.2.1 29 = .ok (.iconst 0, 1) := by decide +kernel
theorem dX12_isSpot_30 : decode mX12_isSpot.2.1 30 = .ok (.bastore, 1) := by decide +kernel
theorem dX12_isSpot_31 : decode mX12_isSpot.2.1 31 = .ok (.iinc 3 1, 3) := by decide +kernel
theorem dX12_isSpot_34 : decode mX12_isSpot.2.1 34 = .ok (.goto (-32), 3) := by decide +kernel
theorem dX12_isSpot_37 : decode mX12_isSpot.2.1 37 = .ok (.aload_n 0, 1) := by decide +kernel
theorem dX12_isSpot_38 : decode mX12_isSpot.2.1 38 = .ok (.iload_n 2, 1) := by decide +kernel
theorem dX12_isSpot_39 : decode mX12_isSpot.2.1 39 = .ok (.aload_n 0, 1) := by decide +kernel
theorem dX12_isSpot_40 : decode mX12_isSpot.2.1 40 = .ok (.getfield 103, 3) := by decide +kernel
theorem dX12_isSpot_43 : decode mX12_isSpot.2.1 43 = .ok (.invokevirtual 330, 3) := by decide +kernel
theorem dX12_isSpot_46 : decode mX12_isSpot.2.1 46 = .ok (.aload_n 0, 1) := by decide +kernel
theorem dX12_isSpot_47 : decode mX12_isSpot.2.1 47 = .ok (.getfield 7, 3) := by decide +kernel
theorem dX12_isSpot_50 : decode mX12_isSpot.2.1 50 = .ok (.sipush 192, 3) := by decide +kernel
theorem dX12_isSpot_53 : decode mX12_isSpot.2.1 53 = .ok (.iload_n 1, 1) := by decide +kernel
theorem dX12_isSpot_54 : decode mX12_isSpot.2.1 54 = .ok (.iadd, 1) := by decide +kernel
theorem dX12_isSpot_55 : decode mX12_isSpot.2.1 55 = .ok (.iaload, 1) := by decide +kernel
theorem dX12_isSpot_56 : decode mX12_isSpot.2.1 56 = .ok (.iconst 1, 1) := by decide +kernel
theorem dX12_isSpot_57 : decode mX12_isSpot.2.1 57 = .ok (.if_icmp .ne 7, 3) := by decide +kernel
theorem dX12_isSpot_60 : decode mX12_isSpot.2.1 60 = .ok (.iconst 1, 1) := by decide +kernel
theorem dX12_isSpot_61 : decode mX12_isSpot.2.1 61 = .ok (.goto 4, 3) := by decide +kernel
theorem dX12_isSpot_64 : decode mX12_isSpot.2.1 64 = .ok (.iconst 0, 1) := by decide +kernel
theorem dX12_isSpot_65 : decode mX12_isSpot.2.1 65 = .ok (.istore_n 3, 1) := by decide +kernel
theorem dX12_isSpot_66 : decode mX12_isSpot.2.1 66 = .ok (.iconst 0, 1) := by decide +kernel
theorem dX12_isSpot_67 : decode mX12_isSpot.2.1 67 = .ok (.istore 4, 2) := by decide +kernel
theorem dX12_isSpot_69 : decode mX12_isSpot.2.1 69 = .ok (.iload 4, 2) := by decide +kernel
theorem dX12_isSpot_71 : decode mX12_isSpot.2.1 71 = .ok (.bipush 64, 2) := by decide +kernel
theorem dX12_isSpot_73 : decode mX12_isSpot.2.1 73 = .ok (.if_icmp .ge 58, 3) := by decide +kernel
theorem dX12_isSpot_76 : decode mX12_isSpot.2.1 76 = .ok (.iload_n 3, 1) := by decide +kernel
theorem dX12_isSpot_77 : decode mX12_isSpot.2.1 77 = .ok (.ifCond .eq 46, 3) := by decide +kernel
theorem dX12_isSpot_80 : decode mX12_isSpot.2.1 80 = .ok (.aload_n 0, 1) := by decide +kernel
theorem dX12_isSpot_81 : decode mX12_isSpot.2.1 81 = .ok (.getfield 7, 3) := by decide +kernel
theorem dX12_isSpot_84 : decode mX12_isSpot.2.1 84 = .ok (.sipush 192, 3) := by decide +kernel
theorem dX12_isSpot_87 : decode mX12_isSpot.2.1 87 = .ok (.iload 4, 2) := by decide +kernel
theorem dX12_isSpot_89 : decode mX12_isSpot.2.1 89 = .ok (.iadd, 1) := by decide +kernel
theorem dX12_isSpot_90 : decode mX12_isSpot.2.1 90 = .ok (.iaload, 1) := by decide +kernel
theorem dX12_isSpot_91 : decode mX12_isSpot.2.1 91 = .ok (.ifCond .eq 28, 3) := by decide +kernel
theorem dX12_isSpot_94 : decode mX12_isSpot.2.1 94 = .ok (.aload_n 0, 1) := by decide +kernel
theorem dX12_isSpot_95 : decode mX12_isSpot.2.1 95 = .ok (.getfield 7, 3) := by decide +kernel
theorem dX12_isSpot_98 : decode mX12_isSpot.2.1 98 = .ok (.sipush 320, 3) := by decide +kernel
theorem dX12_isSpot_101 : decode mX12_isSpot.2.1 101 = .ok (.iload 4, 2) := by decide +kernel
theorem dX12_isSpot_103 : decode mX12_isSpot.2.1 103 = .ok (.iadd, 1) := by decide +kernel
theorem dX12_isSpot_104 : decode mX12_isSpot.2.1 104 = .ok (.iaload, 1) := by decide +kernel
theorem dX12_isSpot_105 : decode mX12_isSpot.2.1 105 = .ok (.ifCond .eq 14, 3) := by decide +kernel
theorem dX12_isSpot_108 : decode mX12_isSpot.2.1 108 = .ok (.aload_n 0, 1) := by decide +kernel
theorem dX12_isSpot_109 : decode mX12_isSpot.2.1 109 = .ok (.getfield 100, 3) := by decide +kernel
theorem dX12_isSpot_112 : decode mX12_isSpot.2.1 112 = .ok (.iload 4, 2) := by decide +kernel
theorem dX12_isSpot_114 : decode mX12_isSpot.2.1 114 = .ok (.iaload, 1) := by decide +kernel
theorem dX12_isSpot_115 : decode mX12_isSpot.2.1 115 = .ok (.iconst (-1), 1) := by decide +kernel
theorem dX12_isSpot_116 : decode mX12_isSpot.2.1 116 = .ok (.if_icmp .eq 7, 3) := by decide +kernel
theorem dX12_isSpot_119 : decode mX12_isSpot.2.1 119 = .ok (.iconst 1, 1) := by decide +kernel
theorem dX12_isSpot_120 : decode mX12_isSpot.2.1 120 = .ok (.goto 4, 3) := by decide +kernel
theorem dX12_isSpot_123 : decode mX12_isSpot.2.1 123 = .ok (.iconst 0, 1) := by decide +kernel
theorem dX12_isSpot_124 : decode mX12_isSpot.2.1 124 = .ok (.istore_n 3, 1) := by decide +kernel
theorem dX12_isSpot_125 : decode mX12_isSpot.2.1 125 = .ok (.iinc 4 1, 3) := by decide +kernel
theorem dX12_isSpot_128 : decode mX12_isSpot.2.1 128 = .ok (.goto (-59), 3) := by decide +kernel
theorem dX12_isSpot_131 : decode mX12_isSpot.2.1 131 = .ok (.iload_n 3, 1) := by decide +kernel
theorem dX12_isSpot_132 : decode mX12_isSpot.2.1 132 = .ok (.ireturn, 1) := by decide +kernel
theorem dX12_illMany_0 : decode mX12_illMany.2.1 0 = .ok (.iconst 0, 1) := by decide +kernel
theorem dX12_illMany_1 : decode mX12_illMany.2.1 1 = .ok (.istore_n 1, 1) := by decide +kernel
theorem dX12_illMany_2 : decode mX12_illMany.2.1 2 = .ok (.iconst 0, 1) := by decide +kernel
theorem dX12_illMany_3 : decode mX12_illMany.2.1 3 = .ok (.istore_n 2, 1) := by decide +kernel
theorem dX12_illMany_4 : decode mX12_illMany.2.1 4 = .ok (.iload_n 2, 1) := by decide +kernel
theorem dX12_illMany_5 : decode mX12_illMany.2.1 5 = .ok (.bipush 64, 2) := by decide +kernel
theorem dX12_illMany_7 : decode mX12_illMany.2.1 7 = .ok (.if_icmp .ge 48, 3) := by decide +kernel
theorem dX12_illMany_10 : decode mX12_illMany.2.1 10 = .ok (.iload_n 1, 1) := by decide +kernel
theorem dX12_illMany_11 : decode mX12_illMany.2.1 11 = .ok (.aload_n 0, 1) := by decide +kernel
theorem dX12_illMany_12 : decode mX12_illMany.2.1 12 = .ok (.getfield 7, 3) := by decide +kernel
theorem dX12_illMany_15 : decode mX12_illMany.2.1 15 = .ok (.sipush 192, 3) := by decide +kernel
theorem dX12_illMany_18 : decode mX12_illMany.2.1 18 = .ok (.iload_n 2, 1) := by decide +kernel
theorem dX12_illMany_19 : decode mX12_illMany.2.1 19 = .ok (.iadd, 1) := by decide +kernel
theorem dX12_illMany_20 : decode mX12_illMany.2.1 20 = .ok (.iaload, 1) := by decide +kernel
theorem dX12_illMany_21 : decode mX12_illMany.2.1 21 = .ok (.iconst 1, 1) := by decide +kernel
theorem dX12_illMany_22 : decode mX12_illMany.2.1 22 = .ok (.if_icmp .ne 21, 3) := by decide +kernel
theorem dX12_illMany_25 : decode mX12_illMany.2.1 25 = .ok (.aload_n 0, 1) := by decide +kernel
theorem dX12_illMany_26 : decode mX12_illMany.2.1 26 = .ok (.getfield 7, 3) := by decide +kernel
theorem dX12_illMany_29 : decode mX12_illMany.2.1 29 = .ok (.sipush 320, 3) := by decide +kernel
theorem dX12_illMany_32 : decode mX12_illMany.2.1 32 = .ok (.iload_n 2, 1) := by decide +kernel
theorem dX12_illMany_33 : decode mX12_illMany.2.1 33 = .ok (.iadd, 1) := by decide +kernel
theorem dX12_illMany_34 : decode mX12_illMany.2.1 34 = .ok (.iaload, 1) := by decide +kernel
theorem dX12_illMany_35 : decode mX12_illMany.2.1 35 = .ok (.iconst 1, 1) := by decide +kernel
theorem dX12_illMany_36 : decode mX12_illMany.2.1 36 = .ok (.if_icmp .ne 7, 3) := by decide +kernel
theorem dX12_illMany_39 : decode mX12_illMany.2.1 39 = .ok (.iconst 1, 1) := by decide +kernel
theorem dX12_illMany_40 : decode mX12_illMany.2.1 40 = .ok (.goto 4, 3) := by decide +kernel
theorem dX12_illMany_43 : decode mX12_illMany.2.1 43 = .ok (.iconst 0, 1) := by decide +kernel
theorem dX12_illMany_44 : decode mX12_illMany.2.1 44 = .ok (.invokestatic 231, 3) := by decide +kernel
theorem dX12_illMany_47 : decode mX12_illMany.2.1 47 = .ok (.iadd, 1) := by decide +kernel
theorem dX12_illMany_48 : decode mX12_illMany.2.1 48 = .ok (.istore_n 1, 1) := by decide +kernel
theorem dX12_illMany_49 : decode mX12_illMany.2.1 49 = .ok (.iinc 2 1, 3) := by decide +kernel
theorem dX12_illMany_52 : decode mX12_illMany.2.1 52 = .ok (.goto (-48), 3) := by decide +kernel
theorem dX12_illMany_55 : decode mX12_illMany.2.1 55 = .ok (.iload_n 1, 1) := by decide +kernel
theorem dX12_illMany_56 : decode mX12_illMany.2.1 56 = .ok (.ireturn, 1) := by decide +kernel
theorem dX12_spot_0 : decode mX12_spot.2.1 0 = .ok (.iload_n 1, 1) := by decide +kernel
theorem dX12_spot_1 : decode mX12_spot.2.1 1 = .ok (.iconst 0, 1) := by decide +kernel
theorem dX12_spot_2 : decode mX12_spot.2.1 2 = .ok (.bipush 64, 2) := by decide +kernel
theorem dX12_spot_4 : decode mX12_spot.2.1 4 = .ok (.invokestatic 162, 3) := by decide +kernel
theorem dX12_spot_7 : decode mX12_spot.2.1 7 = .ok (.ifCond .eq 14, 3) := by decide +kernel
theorem dX12_spot_10 : decode mX12_spot.2.1 10 = .ok (.iload_n 2, 1) := by decide +kernel
theorem dX12_spot_11 : decode mX12_spot.2.1 11 = .ok (.ifCond .lt 10, 3) := by decide +kernel
theorem dX12_spot_14 : decode mX12_spot.2.1 14 = .ok (.aload_n 0, 1) := by decide +kernel
theorem dX12_spot_15 : decode mX12_spot.2.1 15 = .ok (.invokevirtual 334, 3) := by decide +kernel
theorem dX12_spot_18 : decode mX12_spot.2.1 18 = .ok (.ifCond .ne 5, 3) := by decide +kernel
theorem dX12_spot_21 : decode mX12_spot.2.1 21 = .ok (.iconst (-1), 1) := by decide +kernel
theorem dX12_spot_22 : decode mX12_spot.2.1 22 = .ok (.ireturn, 1) := by decide +kernel
theorem dX12_spot_23 : decode mX12_spot.2.1 23 = .ok (.iload_n 2, 1) := by decide +kernel
theorem dX12_spot_24 : decode mX12_spot.2.1 24 = .ok (.istore_n 3, 1) := by decide +kernel
theorem dX12_spot_25 : decode mX12_spot.2.1 25 = .ok (.iconst 0, 1) := by decide +kernel
theorem dX12_spot_26 : decode mX12_spot.2.1 26 = .ok (.istore 4, 2) := by decide +kernel
theorem dX12_spot_28 : decode mX12_spot.2.1 28 = .ok (.iload 4, 2) := by decide +kernel
theorem dX12_spot_30 : decode mX12_spot.2.1 30 = .ok (.bipush 64, 2) := by decide +kernel
theorem dX12_spot_32 : decode mX12_spot.2.1 32 = .ok (.if_icmp .ge 32, 3) := by decide +kernel
theorem dX12_spot_35 : decode mX12_spot.2.1 35 = .ok (.aload_n 0, 1) := by decide +kernel
theorem dX12_spot_36 : decode mX12_spot.2.1 36 = .ok (.iload 4, 2) := by decide +kernel
theorem dX12_spot_38 : decode mX12_spot.2.1 38 = .ok (.iload_n 1, 1) := by decide +kernel
theorem dX12_spot_39 : decode mX12_spot.2.1 39 = .ok (.invokevirtual 338, 3) := by decide +kernel
theorem dX12_spot_42 : decode mX12_spot.2.1 42 = .ok (.ifCond .ne 6, 3) := by decide +kernel
theorem dX12_spot_45 : decode mX12_spot.2.1 45 = .ok (.goto 13, 3) := by decide +kernel
theorem dX12_spot_48 : decode mX12_spot.2.1 48 = .ok (.iload_n 3, 1) := by decide +kernel
theorem dX12_spot_49 : decode mX12_spot.2.1 49 = .ok (.ifCond .ne 6, 3) := by decide +kernel
theorem dX12_spot_52 : decode mX12_spot.2.1 52 = .ok (.iload 4, 2) := by decide +kernel
theorem dX12_spot_54 : decode mX12_spot.2.1 54 = .ok (.ireturn, 1) := by decide +kernel
theorem dX12_spot_55 : decode mX12_spot.2.1 55 = .ok (.iinc 3 (-1), 3) := by decide +kernel
theorem dX12_spot_58 : decode mX12_spot.2.1 58 = .ok (.iinc 4 1, 3) := by decide +kernel
theorem dX12_spot_61 : decode mX12_spot.2.1 61 = .ok (.goto (-33), 3) := by decide +kernel
theorem dX12_spot_64 : decode mX12_spot.2.1 64 = .ok (.iconst (-1), 1) := by decide +kernel
theorem dX12_spot_65 : decode mX12_spot.2.1 65 = .ok (.ireturn, 1) := by decide +kernel
theorem dX12_finds_0 : decode mX12_finds.2.1 0 = .ok (.aload_n 0, 1) := by decide +kernel
theorem dX12_finds_1 : decode mX12_finds.2.1 1 = .ok (.iconst 0, 1) := by decide +kernel
theorem dX12_finds_2 : decode mX12_finds.2.1 2 = .ok (.putfield 341, 3) := by decide +kernel
theorem dX12_finds_5 : decode mX12_finds.2.1 5 = .ok (.iconst 0, 1) := by decide +kernel
theorem dX12_finds_6 : decode mX12_finds.2.1 6 = .ok (.istore_n 1, 1) := by decide +kernel
theorem dX12_finds_7 : decode mX12_finds.2.1 7 = .ok (.iload_n 1, 1) := by decide +kernel
theorem dX12_finds_8 : decode mX12_finds.2.1 8 = .ok (.bipush 64, 2) := by decide +kernel
theorem dX12_finds_10 : decode mX12_finds.2.1 10 = .ok (.if_icmp .ge 145, 3) := by decide +kernel
theorem dX12_finds_13 : decode mX12_finds.2.1 13 = .ok (.aload_n 0, 1) := by decide +kernel
theorem dX12_finds_14 : decode mX12_finds.2.1 14 = .ok (.getfield 341, 3) := by decide +kernel
theorem dX12_finds_17 : decode mX12_finds.2.1 17 = .ok (.bipush 8, 2) := by decide +kernel
theorem dX12_finds_19 : decode mX12_finds.2.1 19 = .ok (.if_icmp .ge 136, 3) := by decide +kernel
theorem dX12_finds_22 : decode mX12_finds.2.1 22 = .ok (.aload_n 0, 1) := by decide +kernel
theorem dX12_finds_23 : decode mX12_finds.2.1 23 = .ok (.getfield 7, 3) := by decide +kernel
theorem dX12_finds_26 : decode mX12_finds.2.1 26 = .ok (.sipush 192, 3) := by decide +kernel
theorem dX12_finds_29 : decode mX12_finds.2.1 29 = .ok (.iload_n 1, 1) := by decide +kernel
theorem dX12_finds_30 : decode mX12_finds.2.1 30 = .ok (.iadd, 1) := by decide +kernel
theorem dX12_finds_31 : decode mX12_finds.2.1 31 = .ok (.iaload, 1) := by decide +kernel
theorem dX12_finds_32 : decode mX12_finds.2.1 32 = .ok (.ifCond .eq 117, 3) := by decide +kernel
theorem dX12_finds_35 : decode mX12_finds.2.1 35 = .ok (.aload_n 0, 1) := by decide +kernel
theorem dX12_finds_36 : decode mX12_finds.2.1 36 = .ok (.getfield 7, 3) := by decide +kernel
theorem dX12_finds_39 : decode mX12_finds.2.1 39 = .ok (.sipush 320, 3) := by decide +kernel
theorem dX12_finds_42 : decode mX12_finds.2.1 42 = .ok (.iload_n 1, 1) := by decide +kernel
theorem dX12_finds_43 : decode mX12_finds.2.1 43 = .ok (.iadd, 1) := by decide +kernel
theorem dX12_finds_44 : decode mX12_finds.2.1 44 = .ok (.iaload, 1) := by decide +kernel
theorem dX12_finds_45 : decode mX12_finds.2.1 45 = .ok (.iconst 1, 1) := by decide +kernel
theorem dX12_finds_46 : decode mX12_finds.2.1 46 = .ok (.if_icmp .ne 6, 3) := by decide +kernel
theorem dX12_finds_49 : decode mX12_finds.2.1 49 = .ok (.goto 100, 3) := by decide +kernel
theorem dX12_finds_52 : decode mX12_finds.2.1 52 = .ok (.iconst 0, 1) := by decide +kernel
theorem dX12_finds_53 : decode mX12_finds.2.1 53 = .ok (.istore_n 2, 1) := by decide +kernel
theorem dX12_finds_54 : decode mX12_finds.2.1 54 = .ok (.iconst 0, 1) := by decide +kernel
theorem dX12_finds_55 : decode mX12_finds.2.1 55 = .ok (.istore_n 3, 1) := by decide +kernel
theorem dX12_finds_56 : decode mX12_finds.2.1 56 = .ok (.iload_n 3, 1) := by decide +kernel
theorem dX12_finds_57 : decode mX12_finds.2.1 57 = .ok (.iconst 4, 1) := by decide +kernel
theorem dX12_finds_58 : decode mX12_finds.2.1 58 = .ok (.if_icmp .ge 64, 3) := by decide +kernel
theorem dX12_finds_61 : decode mX12_finds.2.1 61 = .ok (.iload_n 2, 1) := by decide +kernel
theorem dX12_finds_62 : decode mX12_finds.2.1 62 = .ok (.ifCond .ne 48, 3) := by decide +kernel
theorem dX12_finds_65 : decode mX12_finds.2.1 65 = .ok (.iload_n 1, 1) := by decide +kernel
theorem dX12_finds_66 : decode mX12_finds.2.1 66 = .ok (.iload_n 3, 1) := by decide +kernel
theorem dX12_finds_67 : decode mX12_finds.2.1 67 = .ok (.invokestatic 257, 3) := by decide +kernel
theorem dX12_finds_70 : decode mX12_finds.2.1 70 = .ok (.iconst (-1), 1) := by decide +kernel
theorem dX12_finds_71 : decode mX12_finds.2.1 71 = .ok (.if_icmp .eq 43, 3) := by decide +kernel
theorem dX12_finds_74 : decode mX12_finds.2.1 74 = .ok (.aload_n 0, 1) := by decide +kernel
theorem dX12_finds_75 : decode mX12_finds.2.1 75 = .ok (.getfield 7, 3) := by decide +kernel
theorem dX12_finds_78 : decode mX12_finds.2.1 78 = .ok (.sipush 192, 3) := by decide +kernel
theorem dX12_finds_81 : decode mX12_finds.2.1 81 = .ok (.iload_n 1, 1) := by decide +kernel
theorem dX12_finds_82 : decode mX12_finds.2.1 82 = .ok (.iload_n 3, 1) := by decide +kernel
theorem dX12_finds_83 : decode mX12_finds.2.1 83 = .ok (.invokestatic 257, 3) := by decide +kernel
theorem dX12_finds_86 : decode mX12_finds.2.1 86 = .ok (.iadd, 1) := by decide +kernel
theorem dX12_finds_87 : decode mX12_finds.2.1 87 = .ok (.iaload, 1) := by decide +kernel
theorem dX12_finds_88 : decode mX12_finds.2.1 88 = .ok (.iconst 1, 1) := by decide +kernel
theorem dX12_finds_89 : decode mX12_finds.2.1 89 = .ok (.if_icmp .ne 25, 3) := by decide +kernel
theorem dX12_finds_92 : decode mX12_finds.2.1 92 = .ok (.aload_n 0, 1) := by decide +kernel
theorem dX12_finds_93 : decode mX12_finds.2.1 93 = .ok (.getfield 7, 3) := by decide +kernel
theorem dX12_finds_96 : decode mX12_finds.2.1 96 = .ok (.sipush 320, 3) := by decide +kernel
theorem dX12_finds_99 : decode mX12_finds.2.1 99 = .ok (.iload_n 1, 1) := by decide +kernel
theorem dX12_finds_100 : decode mX12_finds.2.1 100 = .ok (.iload_n 3, 1) := by decide +kernel
theorem dX12_finds_101 : decode mX12_finds.2.1 101 = .ok (.invokestatic 257, 3) := by decide +kernel
theorem dX12_finds_104 : decode mX12_finds.2.1 104 = .ok (.iadd, 1) := by decide +kernel
theorem dX12_finds_105 : decode mX12_finds.2.1 105 = .ok (.iaload, 1) := by decide +kernel
theorem dX12_finds_106 : decode mX12_finds.2.1 106 = .ok (.iconst 1, 1) := by decide +kernel
theorem dX12_finds_107 : decode mX12_finds.2.1 107 = .ok (.if_icmp .ne 7, 3) := by decide +kernel
theorem dX12_finds_110 : decode mX12_finds.2.1 110 = .ok (.iconst 1, 1) := by decide +kernel
theorem dX12_finds_111 : decode mX12_finds.2.1 111 = .ok (.goto 4, 3) := by decide +kernel
theorem dX12_finds_114 : decode mX12_finds.2.1 114 = .ok (.iconst 0, 1) := by decide +kernel
theorem dX12_finds_115 : decode mX12_finds.2.1 115 = .ok (.istore_n 2, 1) := by decide +kernel
theorem dX12_finds_116 : decode mX12_finds.2.1 116 = .ok (.iinc 3 1, 3) := by decide +kernel
theorem dX12_finds_119 : decode mX12_finds.2.1 119 = .ok (.goto (-63), 3) := by decide +kernel
theorem dX12_finds_122 : decode mX12_finds.2.1 122 = .ok (.iload_n 2, 1) := by decide +kernel
theorem dX12_finds_123 : decode mX12_finds.2.1 123 = .ok (.ifCond .ne 6, 3) := by decide +kernel
theorem dX12_finds_126 : decode mX12_finds.2.1 126 = .ok (.goto 23, 3) := by decide +kernel
theorem dX12_finds_129 : decode mX12_finds.2.1 129 = .ok (.aload_n 0, 1) := by decide +kernel
theorem dX12_finds_130 : decode mX12_finds.2.1 130 = .ok (.getfield 106, 3) := by decide +kernel
theorem dX12_finds_133 : decode mX12_finds.2.1 133 = .ok (.aload_n 0, 1) := by decide +kernel
theorem dX12_finds_134 : decode mX12_finds.2.1 134 = .ok (.getfield 341, 3) := by decide +kernel
theorem dX12_finds_137 : decode mX12_finds.2.1 137 = .ok (.iload_n 1, 1) := by decide +kernel
theorem dX12_finds_138 : decode mX12_finds.2.1 138 = .ok (.iastore, 1) := by decide +kernel
theorem dX12_finds_139 : decode mX12_finds.2.1 139 = .ok (.aload_n 0, 1) := by decide +kernel
theorem dX12_finds_140 : decode mX12_finds.2.1 140 = .ok (.dup, 1) := by decide +kernel
theorem dX12_finds_141 : decode mX12_finds.2.1 141 = .ok (.getfield 341, 3) := by decide +kernel
theorem dX12_finds_144 : decode mX12_finds.2.1 144 = .ok (.iconst 1, 1) := by decide +kernel
theorem dX12_finds_145 : decode mX12_finds.2.1 145 = .ok (.iadd, 1) := by decide +kernel
theorem dX12_finds_146 : decode mX12_finds.2.1 146 = .ok (.putfield 341, 3) := by decide +kernel
theorem dX12_finds_149 : decode mX12_finds.2.1 149 = .ok (.iinc 1 1, 3) := by decide +kernel
theorem dX12_finds_152 : decode mX12_finds.2.1 152 = .ok (.goto (-145), 3) := by decide +kernel
theorem dX12_finds_155 : decode mX12_finds.2.1 155 = .ok (.return_, 1) := by decide +kernel
theorem dX12_reached_0 : decode mX12_reached.2.1 0 = .ok (.iconst 0, 1) := by decide +kernel
theorem dX12_reached_1 : decode mX12_reached.2.1 1 = .ok (.istore_n 3, 1) := by decide +kernel
theorem dX12_reached_2 : decode mX12_reached.2.1 2 = .ok (.iload_n 3, 1) := by decide +kernel
theorem dX12_reached_3 : decode mX12_reached.2.1 3 = .ok (.bipush 64, 2) := by decide +kernel
theorem dX12_reached_5 : decode mX12_reached.2.1 5 = .ok (.if_icmp .ge 55, 3) := by decide +kernel
theorem dX12_reached_8 : decode mX12_reached.2.1 8 = .ok (.aload_n 0, 1) := by decide +kernel
theorem dX12_reached_9 : decode mX12_reached.2.1 9 = .ok (.getfield 100, 3) := by decide +kernel
theorem dX12_reached_12 : decode mX12_reached.2.1 12 = .ok (.iload_n 3, 1) := by decide +kernel
theorem dX12_reached_13 : decode mX12_reached.2.1 13 = .ok (.aload_n 0, 1) := by decide +kernel
theorem dX12_reached_14 : decode mX12_reached.2.1 14 = .ok (.getfield 7, 3) := by decide +kernel
theorem dX12_reached_17 : decode mX12_reached.2.1 17 = .ok (.sipush 192, 3) := by decide +kernel
theorem dX12_reached_20 : decode mX12_reached.2.1 20 = .ok (.iload_n 3, 1) := by decide +kernel
theorem dX12_reached_21 : decode mX12_reached.2.1 21 = .ok (.iadd, 1) := by decide +kernel
theorem dX12_reached_22 : decode mX12_reached.2.1 22 = .ok (.iaload, 1) := by decide +kernel
theorem dX12_reached_23 : decode mX12_reached.2.1 23 = .ok (.iconst 1, 1) := by decide +kernel
theorem dX12_reached_24 : decode mX12_reached.2.1 24 = .ok (.if_icmp .ne 21, 3) := by decide +kernel
theorem dX12_reached_27 : decode mX12_reached.2.1 27 = .ok (.aload_n 0, 1) := by decide +kernel
theorem dX12_reached_28 : decode mX12_reached.2.1 28 = .ok (.getfield 7, 3) := by decide +kernel
theorem dX12_reached_31 : decode mX12_reached.2.1 31 = .ok (.sipush 320, 3) := by decide +kernel
theorem dX12_reached_34 : decode mX12_reached.2.1 34 = .ok (.iload_n 3, 1) := by decide +kernel
theorem dX12_reached_35 : decode mX12_reached.2.1 35 = .ok (.iadd, 1) := by decide +kernel
theorem dX12_reached_36 : decode mX12_reached.2.1 36 = .ok (.iaload, 1) := by decide +kernel
theorem dX12_reached_37 : decode mX12_reached.2.1 37 = .ok (.iconst 1, 1) := by decide +kernel
theorem dX12_reached_38 : decode mX12_reached.2.1 38 = .ok (.if_icmp .ne 7, 3) := by decide +kernel
theorem dX12_reached_41 : decode mX12_reached.2.1 41 = .ok (.iconst 0, 1) := by decide +kernel
theorem dX12_reached_42 : decode mX12_reached.2.1 42 = .ok (.goto 4, 3) := by decide +kernel
theorem dX12_reached_45 : decode mX12_reached.2.1 45 = .ok (.iconst (-1), 1) := by decide +kernel
theorem dX12_reached_46 : decode mX12_reached.2.1 46 = .ok (.iastore, 1) := by decide +kernel
theorem dX12_reached_47 : decode mX12_reached.2.1 47 = .ok (.aload_n 0, 1) := by decide +kernel
theorem dX12_reached_48 : decode mX12_reached.2.1 48 = .ok (.getfield 103, 3) := by decide +kernel
theorem dX12_reached_51 : decode mX12_reached.2.1 51 = .ok (.iload_n 3, 1) := by decide +kernel
theorem dX12_reached_52 : decode mX12_reached.2.1 52 = .ok (.iconst 0, 1) := by decide +kernel
theorem dX12_reached_53 : decode mX12_reached.2.1 53 = .ok (.bastore, 1) := by decide +kernel
theorem dX12_reached_54 : decode mX12_reached.2.1 54 = .ok (.iinc 3 1, 3) := by decide +kernel
theorem dX12_reached_57 : decode mX12_reached.2.1 57 = .ok (.goto (-55), 3) := by decide +kernel
theorem dX12_reached_60 : decode mX12_reached.2.1 60 = .ok (.iconst 0, 1) := by decide +kernel
theorem dX12_reached_61 : decode mX12_reached.2.1 61 = .ok (.istore_n 3, 1) := by decide +kernel
theorem dX12_reached_62 : decode mX12_reached.2.1 62 = .ok (.iload_n 3, 1) := by decide +kernel
theorem dX12_reached_63 : decode mX12_reached.2.1 63 = .ok (.aload_n 0, 1) := by decide +kernel
theorem dX12_reached_64 : decode mX12_reached.2.1 64 = .ok (.getfield 341, 3) := by decide +kernel
theorem dX12_reached_67 : decode mX12_reached.2.1 67 = .ok (.if_icmp .ge 30, 3) := by decide +kernel
theorem dX12_reached_70 : decode mX12_reached.2.1 70 = .ok (.iload_n 1, 1) := by decide +kernel
theorem dX12_reached_71 : decode mX12_reached.2.1 71 = .ok (.iload_n 3, 1) := by decide +kernel
theorem dX12_reached_72 : decode mX12_reached.2.1 72 = .ok (.ishr, 1) := by decide +kernel
theorem dX12_reached_73 : decode mX12_reached.2.1 73 = .ok (.iconst 1, 1) := by decide +kernel
theorem dX12_reached_74 : decode mX12_reached.2.1 74 = .ok (.iand, 1) := by decide +kernel
theorem dX12_reached_75 : decode mX12_reached.2.1 75 = .ok (.iconst 1, 1) := by decide +kernel
theorem dX12_reached_76 : decode mX12_reached.2.1 76 = .ok (.if_icmp .ne 15, 3) := by decide +kernel
theorem dX12_reached_79 : decode mX12_reached.2.1 79 = .ok (.aload_n 0, 1) := by decide +kernel
theorem dX12_reached_80 : decode mX12_reached.2.1 80 = .ok (.getfield 103, 3) := by decide +kernel
theorem dX12_reached_83 : decode mX12_reached.2.1 83 = .ok (.aload_n 0, 1) := by decide +kernel
theorem dX12_reached_84 : decode mX12_reached.2.1 84 = .ok (.getfield 106, 3) := by decide +kernel
theorem dX12_reached_87 : decode mX12_reached.2.1 87 = .ok (.iload_n 3, 1) := by decide +kernel
theorem dX12_reached_88 : decode mX12_reached.2.1 88 = .ok (.iaload, 1) := by decide +kernel
theorem dX12_reached_89 : decode mX12_reached.2.1 89 = .ok (.iconst 1, 1) := by decide +kernel
theorem dX12_reached_90 : decode mX12_reached.2.1 90 = .ok (.bastore, 1) := by decide +kernel
theorem dX12_reached_91 : decode mX12_reached.2.1 91 = .ok (.iinc 3 1, 3) := by decide +kernel
theorem dX12_reached_94 : decode mX12_reached.2.1 94 = .ok (.goto (-32), 3) := by decide +kernel
theorem dX12_reached_97 : decode mX12_reached.2.1 97 = .ok (.aload_n 0, 1) := by decide +kernel
theorem dX12_reached_98 : decode mX12_reached.2.1 98 = .ok (.iload_n 2, 1) := by decide +kernel
theorem dX12_reached_99 : decode mX12_reached.2.1 99 = .ok (.aload_n 0, 1) := by decide +kernel
theorem dX12_reached_100 : decode mX12_reached.2.1 100 = .ok (.getfield 103, 3) := by decide +kernel
theorem dX12_reached_103 : decode mX12_reached.2.1 103 = .ok (.invokevirtual 330, 3) := by decide +kernel
theorem dX12_reached_106 : decode mX12_reached.2.1 106 = .ok (.iconst 0, 1) := by decide +kernel
theorem dX12_reached_107 : decode mX12_reached.2.1 107 = .ok (.istore_n 3, 1) := by decide +kernel
theorem dX12_reached_108 : decode mX12_reached.2.1 108 = .ok (.iconst 0, 1) := by decide +kernel
theorem dX12_reached_109 : decode mX12_reached.2.1 109 = .ok (.istore 4, 2) := by decide +kernel
theorem dX12_reached_111 : decode mX12_reached.2.1 111 = .ok (.iload 4, 2) := by decide +kernel
theorem dX12_reached_113 : decode mX12_reached.2.1 113 = .ok (.bipush 64, 2) := by decide +kernel
theorem dX12_reached_115 : decode mX12_reached.2.1 115 = .ok (.if_icmp .ge 31, 3) := by decide +kernel
theorem dX12_reached_118 : decode mX12_reached.2.1 118 = .ok (.iload_n 3, 1) := by decide +kernel
theorem dX12_reached_119 : decode mX12_reached.2.1 119 = .ok (.aload_n 0, 1) := by decide +kernel
theorem dX12_reached_120 : decode mX12_reached.2.1 120 = .ok (.getfield 100, 3) := by decide +kernel
theorem dX12_reached_123 : decode mX12_reached.2.1 123 = .ok (.iload 4, 2) := by decide +kernel
theorem dX12_reached_125 : decode mX12_reached.2.1 125 = .ok (.iaload, 1) := by decide +kernel
theorem dX12_reached_126 : decode mX12_reached.2.1 126 = .ok (.iconst (-1), 1) := by decide +kernel
theorem dX12_reached_127 : decode mX12_reached.2.1 127 = .ok (.if_icmp .eq 7, 3) := by decide +kernel
theorem dX12_reached_130 : decode mX12_reached.2.1 130 = .ok (.iconst 1, 1) := by decide +kernel
theorem dX12_reached_131 : decode mX12_reached.2.1 131 = .ok (.goto 4, 3) := by decide +kernel
theorem dX12_reached_134 : decode mX12_reached.2.1 134 = .ok (.iconst 0, 1) := by decide +kernel
theorem dX12_reached_135 : decode mX12_reached.2.1 135 = .ok (.invokestatic 231, 3) := by decide +kernel
theorem dX12_reached_138 : decode mX12_reached.2.1 138 = .ok (.iadd, 1) := by decide +kernel
theorem dX12_reached_139 : decode mX12_reached.2.1 139 = .ok (.istore_n 3, 1) := by decide +kernel
theorem dX12_reached_140 : decode mX12_reached.2.1 140 = .ok (.iinc 4 1, 3) := by decide +kernel
theorem dX12_reached_143 : decode mX12_reached.2.1 143 = .ok (.goto (-32), 3) := by decide +kernel
theorem dX12_reached_146 : decode mX12_reached.2.1 146 = .ok (.iload_n 3, 1) := by decide +kernel
theorem dX12_reached_147 : decode mX12_reached.2.1 147 = .ok (.ireturn, 1) := by decide +kernel
theorem dX12_bits_0 : decode mX12_bits.2.1 0 = .ok (.iconst 0, 1) := by decide +kernel
theorem dX12_bits_1 : decode mX12_bits.2.1 1 = .ok (.istore_n 1, 1) := by decide +kernel
theorem dX12_bits_2 : decode mX12_bits.2.1 2 = .ok (.iload_n 0, 1) := by decide +kernel
theorem dX12_bits_3 : decode mX12_bits.2.1 3 = .ok (.istore_n 2, 1) := by decide +kernel
theorem dX12_bits_4 : decode mX12_bits.2.1 4 = .ok (.iload_n 2, 1) := by decide +kernel
theorem dX12_bits_5 : decode mX12_bits.2.1 5 = .ok (.ifCond .le 16, 3) := by decide +kernel
theorem dX12_bits_8 : decode mX12_bits.2.1 8 = .ok (.iload_n 1, 1) := by decide +kernel
theorem dX12_bits_9 : decode mX12_bits.2.1 9 = .ok (.iload_n 2, 1) := by decide +kernel
theorem dX12_bits_10 : decode mX12_bits.2.1 10 = .ok (.iconst 1, 1) := by decide +kernel
theorem dX12_bits_11 : decode mX12_bits.2.1 11 = .ok (.iand, 1) := by decide +kernel
theorem dX12_bits_12 : decode mX12_bits.2.1 12 = .ok (.iadd, 1) := by decide +kernel
theorem dX12_bits_13 : decode mX12_bits.2.1 13 = .ok (.istore_n 1, 1) := by decide +kernel
theorem dX12_bits_14 : decode mX12_bits.2.1 14 = .ok (.iload_n 2, 1) := by decide +kernel
theorem dX12_bits_15 : decode mX12_bits.2.1 15 = .ok (.iconst 1, 1) := by decide +kernel
theorem dX12_bits_16 : decode mX12_bits.2.1 16 = .ok (.ishr, 1) := by decide +kernel
theorem dX12_bits_17 : decode mX12_bits.2.1 17 = .ok (.istore_n 2, 1) := by decide +kernel
theorem dX12_bits_18 : decode mX12_bits.2.1 18 = .ok (.goto (-14), 3) := by decide +kernel
theorem dX12_bits_21 : decode mX12_bits.2.1 21 = .ok (.iload_n 1, 1) := by decide +kernel
theorem dX12_bits_22 : decode mX12_bits.2.1 22 = .ok (.ireturn, 1) := by decide +kernel
theorem dX12_pull_0 : decode mX12_pull.2.1 0 = .ok (.iload_n 1, 1) := by decide +kernel
theorem dX12_pull_1 : decode mX12_pull.2.1 1 = .ok (.iconst 1, 1) := by decide +kernel
theorem dX12_pull_2 : decode mX12_pull.2.1 2 = .ok (.iconst 3, 1) := by decide +kernel
theorem dX12_pull_3 : decode mX12_pull.2.1 3 = .ok (.invokestatic 162, 3) := by decide +kernel
theorem dX12_pull_6 : decode mX12_pull.2.1 6 = .ok (.ifCond .eq 20, 3) := by decide +kernel
theorem dX12_pull_9 : decode mX12_pull.2.1 9 = .ok (.iload_n 2, 1) := by decide +kernel
theorem dX12_pull_10 : decode mX12_pull.2.1 10 = .ok (.iconst 0, 1) := by decide +kernel
theorem dX12_pull_11 : decode mX12_pull.2.1 11 = .ok (.bipush 64, 2) := by decide +kernel
theorem dX12_pull_13 : decode mX12_pull.2.1 13 = .ok (.invokestatic 162, 3) := by decide +kernel
theorem dX12_pull_16 : decode mX12_pull.2.1 16 = .ok (.ifCond .eq 10, 3) := by decide +kernel
theorem dX12_pull_19 : decode mX12_pull.2.1 19 = .ok (.aload_n 0, 1) := by decide +kernel
theorem dX12_pull_20 : decode mX12_pull.2.1 20 = .ok (.invokevirtual 334, 3) := by decide +kernel
theorem dX12_pull_23 : decode mX12_pull.2.1 23 = .ok (.ifCond .ne 5, 3) := by decide +kernel
theorem dX12_pull_26 : decode mX12_pull.2.1 26 = .ok (.iconst (-1), 1) := by decide +kernel
theorem dX12_pull_27 : decode mX12_pull.2.1 27 = .ok (.ireturn, 1) := by decide +kernel
theorem dX12_pull_28 : decode mX12_pull.2.1 28 = .ok (.aload_n 0, 1) := by decide +kernel
theorem dX12_pull_29 : decode mX12_pull.2.1 29 = .ok (.invokevirtual 344, 3) := by decide +kernel
theorem dX12_pull_32 : decode mX12_pull.2.1 32 = .ok (.iconst 0, 1) := by decide +kernel
theorem dX12_pull_33 : decode mX12_pull.2.1 33 = .ok (.istore 4, 2) := by decide +kernel
theorem dX12_pull_35 : decode mX12_pull.2.1 35 = .ok (.aload_n 0, 1) := by decide +kernel
theorem dX12_pull_36 : decode mX12_pull.2.1 36 = .ok (.iconst 0, 1) := by decide +kernel
theorem dX12_pull_37 : decode mX12_pull.2.1 37 = .ok (.iload_n 2, 1) := by decide +kernel
theorem dX12_pull_38 : decode mX12_pull.2.1 38 = .ok (.invokevirtual 347, 3) := by decide +kernel
theorem dX12_pull_41 : decode mX12_pull.2.1 41 = .ok (.istore 5, 2) := by decide +kernel
theorem dX12_pull_43 : decode mX12_pull.2.1 43 = .ok (.iconst 1, 1) := by decide +kernel
theorem dX12_pull_44 : decode mX12_pull.2.1 44 = .ok (.istore 6, 2) := by decide +kernel
theorem dX12_pull_46 : decode mX12_pull.2.1 46 = .ok (.iload 6, 2) := by decide +kernel
theorem dX12_pull_48 : decode mX12_pull.2.1 48 = .ok (.iconst 1, 1) := by decide +kernel
theorem dX12_pull_49 : decode mX12_pull.2.1 49 = .ok (.aload_n 0, 1) := by decide +kernel
theorem dX12_pull_50 : decode mX12_pull.2.1 50 = .ok (.getfield 341, 3) := by decide +kernel
theorem dX12_pull_53 : decode mX12_pull.2.1 53 = .ok (.ishl, 1) := by decide +kernel
theorem dX12_pull_54 : decode mX12_pull.2.1 54 = .ok (.if_icmp .ge 68, 3) := by decide +kernel
theorem dX12_pull_57 : decode mX12_pull.2.1 57 = .ok (.iload 6, 2) := by decide +kernel
theorem dX12_pull_59 : decode mX12_pull.2.1 59 = .ok (.invokestatic 350, 3) := by decide +kernel
theorem dX12_pull_62 : decode mX12_pull.2.1 62 = .ok (.iload_n 1, 1) := by decide +kernel
theorem dX12_pull_63 : decode mX12_pull.2.1 63 = .ok (.if_icmp .le 6, 3) := by decide +kernel
theorem dX12_pull_66 : decode mX12_pull.2.1 66 = .ok (.goto 50, 3) := by decide +kernel
theorem dX12_pull_69 : decode mX12_pull.2.1 69 = .ok (.aload_n 0, 1) := by decide +kernel
theorem dX12_pull_70 : decode mX12_pull.2.1 70 = .ok (.iload 6, 2) := by decide +kernel
theorem dX12_pull_72 : decode mX12_pull.2.1 72 = .ok (.iload_n 2, 1) := by decide +kernel
theorem dX12_pull_73 : decode mX12_pull.2.1 73 = .ok (.invokevirtual 347, 3) := by decide +kernel
theorem dX12_pull_76 : decode mX12_pull.2.1 76 = .ok (.istore 7, 2) := by decide +kernel
theorem dX12_pull_78 : decode mX12_pull.2.1 78 = .ok (.iload 7, 2) := by decide +kernel
theorem dX12_pull_80 : decode mX12_pull.2.1 80 = .ok (.iload 5, 2) := by decide +kernel
theorem dX12_pull_82 : decode mX12_pull.2.1 82 = .ok (.if_icmp .gt 34, 3) := by decide +kernel
theorem dX12_pull_85 : decode mX12_pull.2.1 85 = .ok (.iload 7, 2) := by decide +kernel
theorem dX12_pull_87 : decode mX12_pull.2.1 87 = .ok (.iload 5, 2) := by decide +kernel
theorem dX12_pull_89 : decode mX12_pull.2.1 89 = .ok (.if_icmp .ne 19, 3) := by decide +kernel
theorem dX12_pull_92 : decode mX12_pull.2.1 92 = .ok (.iload 6, 2) := by decide +kernel
theorem dX12_pull_94 : decode mX12_pull.2.1 94 = .ok (.invokestatic 350, 3) := by decide +kernel
theorem dX12_pull_97 : decode mX12_pull.2.1 97 = .ok (.iload 4, 2) := by decide +kernel
theorem dX12_pull_99 : decode mX12_pull.2.1 99 = .ok (.invokestatic 350, 3) := by decide +kernel
theorem dX12_pull_102 : decode mX12_pull.2.1 102 = .ok (.if_icmp .lt 6, 3) := by decide +kernel
theorem dX12_pull_105 : decode mX12_pull.2.1 105 = .ok (.goto 11, 3) := by decide +kernel
theorem dX12_pull_108 : decode mX12_pull.2.1 108 = .ok (.iload 6, 2) := by decide +kernel
theorem dX12_pull_110 : decode mX12_pull.2.1 110 = .ok (.istore 4, 2) := by decide +kernel
theorem dX12_pull_112 : decode mX12_pull.2.1 112 = .ok (.iload 7, 2) := by decide +kernel
theorem dX12_pull_114 : decode mX12_pull.2.1 114 = .ok (.istore 5, 2) := by decide +kernel
theorem dX12_pull_116 : decode mX12_pull.2.1 116 = .ok (.iinc 6 1, 3) := by decide +kernel
theorem dX12_pull_119 : decode mX12_pull.2.1 119 = .ok (.goto (-73), 3) := by decide +kernel
theorem dX12_pull_122 : decode mX12_pull.2.1 122 = .ok (.iload_n 3, 1) := by decide +kernel
theorem dX12_pull_123 : decode mX12_pull.2.1 123 = .ok (.ifCond .ne 8, 3) := by decide +kernel
theorem dX12_pull_126 : decode mX12_pull.2.1 126 = .ok (.iload 5, 2) := by decide +kernel
theorem dX12_pull_128 : decode mX12_pull.2.1 128 = .ok (.goto 60, 3) := by decide +kernel
theorem dX12_pull_131 : decode mX12_pull.2.1 131 = .ok (.iload_n 3, 1) := by decide +kernel
theorem dX12_pull_132 : decode mX12_pull.2.1 132 = .ok (.bipush 10, 2) := by decide +kernel
theorem dX12_pull_134 : decode mX12_pull.2.1 134 = .ok (.bipush 9, 2) := by decide +kernel
theorem dX12_pull_136 : decode mX12_pull.2.1 136 = .ok (.aload_n 0, 1) := by decide +kernel
theorem dX12_pull_137 : decode mX12_pull.2.1 137 = .ok (.getfield 341, 3) := by decide +kernel
theorem dX12_pull_140 : decode mX12_pull.2.1 140 = .ok (.iadd, 1) := by decide +kernel
theorem dX12_pull_141 : decode mX12_pull.2.1 141 = .ok (.invokestatic 162, 3) := by decide +kernel
theorem dX12_pull_144 : decode mX12_pull.2.1 144 = .ok (.ifCond .eq 15, 3) := by decide +kernel
theorem dX12_pull_147 : decode mX12_pull.2.1 147 = .ok (.aload_n 0, 1) := by decide +kernel
theorem dX12_pull_148 : decode mX12_pull.2.1 148 = .ok (.getfield 106, 3) := by decide +kernel
theorem dX12_pull_151 : decode mX12_pull.2.1 151 = .ok (.iload_n 3, 1) := by decide +kernel
theorem dX12_pull_152 : decode mX12_pull.2.1 152 = .ok (.bipush 10, 2) := by decide +kernel
theorem dX12_pull_154 : decode mX12_pull.2.1 154 = .ok (.isub, 1) := by decide +kernel
theorem dX12_pull_155 : decode mX12_pull.2.1 155 = .ok (.iaload, 1) := by decide +kernel
theorem dX12_pull_156 : decode mX12_pull.2.1 156 = .ok (.goto 32, 3) := by decide +kernel
theorem dX12_pull_159 : decode mX12_pull.2.1 159 = .ok (.iload_n 3, 1) := by decide +kernel
theorem dX12_pull_160 : decode mX12_pull.2.1 160 = .ok (.bipush 20, 2) := by decide +kernel
theorem dX12_pull_162 : decode mX12_pull.2.1 162 = .ok (.bipush 19, 2) := by decide +kernel
theorem dX12_pull_164 : decode mX12_pull.2.1 164 = .ok (.aload_n 0, 1) := by decide +kernel
theorem dX12_pull_165 : decode mX12_pull.2.1 165 = .ok (.getfield 341, 3) := by decide +kernel
theorem dX12_pull_168 : decode mX12_pull.2.1 168 = .ok (.iadd, 1) := by decide +kernel
theorem dX12_pull_169 : decode mX12_pull.2.1 169 = .ok (.invokestatic 162, 3) := by decide +kernel
theorem dX12_pull_172 : decode mX12_pull.2.1 172 = .ok (.ifCond .eq 15, 3) := by decide +kernel
theorem dX12_pull_175 : decode mX12_pull.2.1 175 = .ok (.iload 4, 2) := by decide +kernel
theorem dX12_pull_177 : decode mX12_pull.2.1 177 = .ok (.iload_n 3, 1) := by decide +kernel
theorem dX12_pull_178 : decode mX12_pull.2.1 178 = .ok (.bipush 20, 2) := by decide +kernel
theorem dX12_pull_180 : decode mX12_pull.2.1 180 = .ok (.isub, 1) := by decide +kernel
theorem dX12_pull_181 : decode mX12_pull.2.1 181 = .ok (.ishr, 1) := by decide +kernel
theorem dX12_pull_182 : decode mX12_pull.2.1 182 = .ok (.iconst 1, 1) := by decide +kernel
theorem dX12_pull_183 : decode mX12_pull.2.1 183 = .ok (.iand, 1) := by decide +kernel
theorem dX12_pull_184 : decode mX12_pull.2.1 184 = .ok (.goto 4, 3) := by decide +kernel
theorem dX12_pull_187 : decode mX12_pull.2.1 187 = .ok (.iconst (-1), 1) := by decide +kernel
theorem dX12_pull_188 : decode mX12_pull.2.1 188 = .ok (.ireturn, 1) := by decide +kernel
theorem dX12_strip_0 : decode mX12_strip.2.1 0 = .ok (.iload_n 1, 1) := by decide +kernel
theorem dX12_strip_1 : decode mX12_strip.2.1 1 = .ok (.iconst 0, 1) := by decide +kernel
theorem dX12_strip_2 : decode mX12_strip.2.1 2 = .ok (.iconst 1, 1) := by decide +kernel
theorem dX12_strip_3 : decode mX12_strip.2.1 3 = .ok (.invokestatic 162, 3) := by decide +kernel
theorem dX12_strip_6 : decode mX12_strip.2.1 6 = .ok (.ifCond .eq 23, 3) := by decide +kernel
theorem dX12_strip_9 : decode mX12_strip.2.1 9 = .ok (.iload_n 2, 1) := by decide +kernel
theorem dX12_strip_10 : decode mX12_strip.2.1 10 = .ok (.iconst 0, 1) := by decide +kernel
theorem dX12_strip_11 : decode mX12_strip.2.1 11 = .ok (.sipush 9999, 3) := by decide +kernel
theorem dX12_strip_14 : decode mX12_strip.2.1 14 = .ok (.invokestatic 162, 3) := by decide +kernel
theorem dX12_strip_17 : decode mX12_strip.2.1 17 = .ok (.ifCond .eq 12, 3) := by decide +kernel
theorem dX12_strip_20 : decode mX12_strip.2.1 20 = .ok (.aload_n 0, 1) := by decide +kernel
theorem dX12_strip_21 : decode mX12_strip.2.1 21 = .ok (.getfield 353, 3) := by decide +kernel
theorem dX12_strip_24 : decode mX12_strip.2.1 24 = .ok (.bipush 12, 2) := by decide +kernel
theorem dX12_strip_26 : decode mX12_strip.2.1 26 = .ok (.if_icmp .ne 5, 3) := by decide +kernel
theorem dX12_strip_29 : decode mX12_strip.2.1 29 = .ok (.iconst (-1), 1) := by decide +kernel
theorem dX12_strip_30 : decode mX12_strip.2.1 30 = .ok (.ireturn, 1) := by decide +kernel
theorem dX12_strip_31 : decode mX12_strip.2.1 31 = .ok (.aload_n 0, 1) := by decide +kernel
theorem dX12_strip_32 : decode mX12_strip.2.1 32 = .ok (.getfield 109, 3) := by decide +kernel
theorem dX12_strip_35 : decode mX12_strip.2.1 35 = .ok (.aload_n 0, 1) := by decide +kernel
theorem dX12_strip_36 : decode mX12_strip.2.1 36 = .ok (.getfield 353, 3) := by decide +kernel
theorem dX12_strip_39 : decode mX12_strip.2.1 39 = .ok (.iload_n 1, 1) := by decide +kernel
theorem dX12_strip_40 : decode mX12_strip.2.1 40 = .ok (.iastore, 1) := by decide +kernel
theorem dX12_strip_41 : decode mX12_strip.2.1 41 = .ok (.aload_n 0, 1) := by decide +kernel
theorem dX12_strip_42 : decode mX12_strip.2.1 42 = .ok (.getfield 112, 3) := by decide +kernel
theorem dX12_strip_45 : decode mX12_strip.2.1 45 = .ok (.aload_n 0, 1) := by decide +kernel
theorem dX12_strip_46 : decode mX12_strip.2.1 46 = .ok (.getfield 353, 3) := by decide +kernel
theorem dX12_strip_49 : decode mX12_strip.2.1 49 = .ok (.iload_n 2, 1) := by decide +kernel
theorem dX12_strip_50 : decode mX12_strip.2.1 50 = .ok (.iastore, 1) := by decide +kernel
theorem dX12_strip_51 : decode mX12_strip.2.1 51 = .ok (.aload_n 0, 1) := by decide +kernel
theorem dX12_strip_52 : decode mX12_strip.2.1 52 = .ok (.dup, 1) := by decide +kernel
theorem dX12_strip_53 : decode mX12_strip.2.1 53 = .ok (.getfield 353, 3) := by decide +kernel
theorem dX12_strip_56 : decode mX12_strip.2.1 56 = .ok (.iconst 1, 1) := by decide +kernel
theorem dX12_strip_57 : decode mX12_strip.2.1 57 = .ok (.iadd, 1) := by decide +kernel
theorem dX12_strip_58 : decode mX12_strip.2.1 58 = .ok (.putfield 353, 3) := by decide +kernel
theorem dX12_strip_61 : decode mX12_strip.2.1 61 = .ok (.aload_n 0, 1) := by decide +kernel
theorem dX12_strip_62 : decode mX12_strip.2.1 62 = .ok (.getfield 353, 3) := by decide +kernel
theorem dX12_strip_65 : decode mX12_strip.2.1 65 = .ok (.iconst 1, 1) := by decide +kernel
theorem dX12_strip_66 : decode mX12_strip.2.1 66 = .ok (.isub, 1) := by decide +kernel
theorem dX12_strip_67 : decode mX12_strip.2.1 67 = .ok (.ireturn, 1) := by decide +kernel
theorem dX12_leadOf_0 : decode mX12_leadOf.2.1 0 = .ok (.iload_n 1, 1) := by decide +kernel
theorem dX12_leadOf_1 : decode mX12_leadOf.2.1 1 = .ok (.invokestatic 350, 3) := by decide +kernel
theorem dX12_leadOf_4 : decode mX12_leadOf.2.1 4 = .ok (.istore_n 2, 1) := by decide +kernel
theorem dX12_leadOf_5 : decode mX12_leadOf.2.1 5 = .ok (.iconst 0, 1) := by decide +kernel
theorem dX12_leadOf_6 : decode mX12_leadOf.2.1 6 = .ok (.istore_n 3, 1) := by decide +kernel
theorem dX12_leadOf_7 : decode mX12_leadOf.2.1 7 = .ok (.iconst 0, 1) := by decide +kernel
theorem dX12_leadOf_8 : decode mX12_leadOf.2.1 8 = .ok (.istore 4, 2) := by decide +kernel
theorem dX12_leadOf_10 : decode mX12_leadOf.2.1 10 = .ok (.iconst 0, 1) := by decide +kernel
theorem dX12_leadOf_11 : decode mX12_leadOf.2.1 11 = .ok (.istore 5, 2) := by decide +kernel
theorem dX12_leadOf_13 : decode mX12_leadOf.2.1 13 = .ok (.iload 5, 2) := by decide +kernel
theorem dX12_leadOf_15 : decode mX12_leadOf.2.1 15 = .ok (.aload_n 0, 1) := by decide +kernel
theorem dX12_leadOf_16 : decode mX12_leadOf.2.1 16 = .ok (.getfield 353, 3) := by decide +kernel
theorem dX12_leadOf_19 : decode mX12_leadOf.2.1 19 = .ok (.if_icmp .ge 44, 3) := by decide +kernel
theorem dX12_leadOf_22 : decode mX12_leadOf.2.1 22 = .ok (.iload_n 1, 1) := by decide +kernel
theorem dX12_leadOf_23 : decode mX12_leadOf.2.1 23 = .ok (.iload 5, 2) := by decide +kernel
theorem dX12_leadOf_25 : decode mX12_leadOf.2.1 25 = .ok (.ishr, 1) := by decide +kernel
theorem dX12_leadOf_26 : decode mX12_leadOf.2.1 26 = .ok (.iconst 1, 1) := by decide +kernel
theorem dX12_leadOf_27 : decode mX12_leadOf.2.1 27 = .ok (.iand, 1) := by decide +kernel
theorem dX12_leadOf_28 : decode mX12_leadOf.2.1 28 = .ok (.iconst 1, 1) := by decide +kernel
theorem dX12_leadOf_29 : decode mX12_leadOf.2.1 29 = .ok (.if_icmp .ne 16, 3) := by decide +kernel
theorem dX12_leadOf_32 : decode mX12_leadOf.2.1 32 = .ok (.iload_n 3, 1) := by decide +kernel
theorem dX12_leadOf_33 : decode mX12_leadOf.2.1 33 = .ok (.aload_n 0, 1) := by decide +kernel
theorem dX12_leadOf_34 : decode mX12_leadOf.2.1 34 = .ok (.getfield 112, 3) := by decide +kernel
theorem dX12_leadOf_37 : decode mX12_leadOf.2.1 37 = .ok (.iload 5, 2) := by decide +kernel
theorem dX12_leadOf_39 : decode mX12_leadOf.2.1 39 = .ok (.iaload, 1) := by decide +kernel
theorem dX12_leadOf_40 : decode mX12_leadOf.2.1 40 = .ok (.iadd, 1) := by decide +kernel
theorem dX12_leadOf_41 : decode mX12_leadOf.2.1 41 = .ok (.istore_n 3, 1) := by decide +kernel
theorem dX12_leadOf_42 : decode mX12_leadOf.2.1 42 = .ok (.goto 15, 3) := by decide +kernel
theorem dX12_leadOf_45 : decode mX12_leadOf.2.1 45 = .ok (.iload 4, 2) := by decide +kernel
theorem dX12_leadOf_47 : decode mX12_leadOf.2.1 47 = .ok (.aload_n 0, 1) := by decide +kernel
theorem dX12_leadOf_48 : decode mX12_leadOf.2.1 48 = .ok (.getfield 112, 3) := by decide +kernel
theorem dX12_leadOf_51 : decode mX12_leadOf.2.1 51 = .ok (.iload 5, 2) := by decide +kernel
theorem dX12_leadOf_53 : decode mX12_leadOf.2.1 53 = .ok (.iaload, 1) := by decide +kernel
theorem dX12_leadOf_54 : decode mX12_leadOf.2.1 54 = .ok (.iadd, 1) := by decide +kernel
theorem dX12_leadOf_55 : decode mX12_leadOf.2.1 55 = .ok (.istore 4, 2) := by decide +kernel
theorem dX12_leadOf_57 : decode mX12_leadOf.2.1 57 = .ok (.iinc 5 1, 3) := by decide +kernel
theorem dX12_leadOf_60 : decode mX12_leadOf.2.1 60 = .ok (.goto (-47), 3) := by decide +kernel
theorem dX12_leadOf_63 : decode mX12_leadOf.2.1 63 = .ok (.iload_n 3, 1) := by decide +kernel
theorem dX12_leadOf_64 : decode mX12_leadOf.2.1 64 = .ok (.aload_n 0, 1) := by decide +kernel
theorem dX12_leadOf_65 : decode mX12_leadOf.2.1 65 = .ok (.getfield 353, 3) := by decide +kernel
theorem dX12_leadOf_68 : decode mX12_leadOf.2.1 68 = .ok (.iload_n 2, 1) := by decide +kernel
theorem dX12_leadOf_69 : decode mX12_leadOf.2.1 69 = .ok (.isub, 1) := by decide +kernel
theorem dX12_leadOf_70 : decode mX12_leadOf.2.1 70 = .ok (.imul, 1) := by decide +kernel
theorem dX12_leadOf_71 : decode mX12_leadOf.2.1 71 = .ok (.iload 4, 2) := by decide +kernel
theorem dX12_leadOf_73 : decode mX12_leadOf.2.1 73 = .ok (.iload_n 2, 1) := by decide +kernel
theorem dX12_leadOf_74 : decode mX12_leadOf.2.1 74 = .ok (.imul, 1) := by decide +kernel
theorem dX12_leadOf_75 : decode mX12_leadOf.2.1 75 = .ok (.isub, 1) := by decide +kernel
theorem dX12_leadOf_76 : decode mX12_leadOf.2.1 76 = .ok (.ireturn, 1) := by decide +kernel
theorem dX12_better_0 : decode mX12_better.2.1 0 = .ok (.iconst 0, 1) := by decide +kernel
theorem dX12_better_1 : decode mX12_better.2.1 1 = .ok (.istore_n 2, 1) := by decide +kernel
theorem dX12_better_2 : decode mX12_better.2.1 2 = .ok (.iconst 0, 1) := by decide +kernel
theorem dX12_better_3 : decode mX12_better.2.1 3 = .ok (.istore_n 3, 1) := by decide +kernel
theorem dX12_better_4 : decode mX12_better.2.1 4 = .ok (.iload_n 3, 1) := by decide +kernel
theorem dX12_better_5 : decode mX12_better.2.1 5 = .ok (.aload_n 0, 1) := by decide +kernel
theorem dX12_better_6 : decode mX12_better.2.1 6 = .ok (.getfield 353, 3) := by decide +kernel
theorem dX12_better_9 : decode mX12_better.2.1 9 = .ok (.if_icmp .ge 20, 3) := by decide +kernel
theorem dX12_better_12 : decode mX12_better.2.1 12 = .ok (.iload_n 2, 1) := by decide +kernel
theorem dX12_better_13 : decode mX12_better.2.1 13 = .ok (.aload_n 0, 1) := by decide +kernel
theorem dX12_better_14 : decode mX12_better.2.1 14 = .ok (.getfield 109, 3) := by decide +kernel
theorem dX12_better_17 : decode mX12_better.2.1 17 = .ok (.iload_n 3, 1) := by decide +kernel
theorem dX12_better_18 : decode mX12_better.2.1 18 = .ok (.iaload, 1) := by decide +kernel
theorem dX12_better_19 : decode mX12_better.2.1 19 = .ok (.iload_n 3, 1) := by decide +kernel
theorem dX12_better_20 : decode mX12_better.2.1 20 = .ok (.ishl, 1) := by decide +kernel
theorem dX12_better_21 : decode mX12_better.2.1 21 = .ok (.ior, 1) := by decide +kernel
theorem dX12_better_22 : decode mX12_better.2.1 22 = .ok (.istore_n 2, 1) := by decide +kernel
theorem dX12_better_23 : decode mX12_better.2.1 23 = .ok (.iinc 3 1, 3) := by decide +kernel
theorem dX12_better_26 : decode mX12_better.2.1 26 = .ok (.goto (-22), 3) := by decide +kernel
theorem dX12_better_29 : decode mX12_better.2.1 29 = .ok (.iconst 0, 1) := by decide +kernel
theorem dX12_better_30 : decode mX12_better.2.1 30 = .ok (.istore_n 3, 1) := by decide +kernel
theorem dX12_better_31 : decode mX12_better.2.1 31 = .ok (.iconst 0, 1) := by decide +kernel
theorem dX12_better_32 : decode mX12_better.2.1 32 = .ok (.istore 4, 2) := by decide +kernel
theorem dX12_better_34 : decode mX12_better.2.1 34 = .ok (.iconst 0, 1) := by decide +kernel
theorem dX12_better_35 : decode mX12_better.2.1 35 = .ok (.istore 5, 2) := by decide +kernel
theorem dX12_better_37 : decode mX12_better.2.1 37 = .ok (.iload 5, 2) := by decide +kernel
theorem dX12_better_39 : decode mX12_better.2.1 39 = .ok (.iconst 1, 1) := by decide +kernel
theorem dX12_better_40 : decode mX12_better.2.1 40 = .ok (.aload_n 0, 1) := by decide +kernel
theorem dX12_better_41 : decode mX12_better.2.1 41 = .ok (.getfield 353, 3) := by decide +kernel
theorem dX12_better_44 : decode mX12_better.2.1 44 = .ok (.ishl, 1) := by decide +kernel
theorem dX12_better_45 : decode mX12_better.2.1 45 = .ok (.if_icmp .ge 54, 3) := by decide +kernel
theorem dX12_better_48 : decode mX12_better.2.1 48 = .ok (.iload 5, 2) := by decide +kernel
theorem dX12_better_50 : decode mX12_better.2.1 50 = .ok (.invokestatic 350, 3) := by decide +kernel
theorem dX12_better_53 : decode mX12_better.2.1 53 = .ok (.iload_n 2, 1) := by decide +kernel
theorem dX12_better_54 : decode mX12_better.2.1 54 = .ok (.invokestatic 350, 3) := by decide +kernel
theorem dX12_better_57 : decode mX12_better.2.1 57 = .ok (.if_icmp .eq 6, 3) := by decide +kernel
theorem dX12_better_60 : decode mX12_better.2.1 60 = .ok (.goto 33, 3) := by decide +kernel
theorem dX12_better_63 : decode mX12_better.2.1 63 = .ok (.iinc 3 1, 3) := by decide +kernel
theorem dX12_better_66 : decode mX12_better.2.1 66 = .ok (.iload 4, 2) := by decide +kernel
theorem dX12_better_68 : decode mX12_better.2.1 68 = .ok (.aload_n 0, 1) := by decide +kernel
theorem dX12_better_69 : decode mX12_better.2.1 69 = .ok (.iload 5, 2) := by decide +kernel
theorem dX12_better_71 : decode mX12_better.2.1 71 = .ok (.invokevirtual 356, 3) := by decide +kernel
theorem dX12_better_74 : decode mX12_better.2.1 74 = .ok (.aload_n 0, 1) := by decide +kernel
theorem dX12_better_75 : decode mX12_better.2.1 75 = .ok (.iload_n 2, 1) := by decide +kernel
theorem dX12_better_76 : decode mX12_better.2.1 76 = .ok (.invokevirtual 356, 3) := by decide +kernel
theorem dX12_better_79 : decode mX12_better.2.1 79 = .ok (.if_icmp .lt 7, 3) := by decide +kernel
theorem dX12_better_82 : decode mX12_better.2.1 82 = .ok (.iconst 1, 1) := by decide +kernel
theorem dX12_better_83 : decode mX12_better.2.1 83 = .ok (.goto 4, 3) := by decide +kernel
theorem dX12_better_86 : decode mX12_better.2.1 86 = .ok (.iconst 0, 1) := by decide +kernel
theorem dX12_better_87 : decode mX12_better.2.1 87 = .ok (.invokestatic 231, 3) := by decide +kernel
theorem dX12_better_90 : decode mX12_better.2.1 90 = .ok (.iadd, 1) := by decide +kernel
theorem dX12_better_91 : decode mX12_better.2.1 91 = .ok (.istore 4, 2) := by decide +kernel
theorem dX12_better_93 : decode mX12_better.2.1 93 = .ok (.iinc 5 1, 3) := by decide +kernel
theorem dX12_better_96 : decode mX12_better.2.1 96 = .ok (.goto (-59), 3) := by decide +kernel
theorem dX12_better_99 : decode mX12_better.2.1 99 = .ok (.iload_n 1, 1) := by decide +kernel
theorem dX12_better_100 : decode mX12_better.2.1 100 = .ok (.ifCond .ne 8, 3) := by decide +kernel
theorem dX12_better_103 : decode mX12_better.2.1 103 = .ok (.iload 4, 2) := by decide +kernel
theorem dX12_better_105 : decode mX12_better.2.1 105 = .ok (.goto 28, 3) := by decide +kernel
theorem dX12_better_108 : decode mX12_better.2.1 108 = .ok (.iload_n 1, 1) := by decide +kernel
theorem dX12_better_109 : decode mX12_better.2.1 109 = .ok (.iconst 1, 1) := by decide +kernel
theorem dX12_better_110 : decode mX12_better.2.1 110 = .ok (.if_icmp .ne 7, 3) := by decide +kernel
theorem dX12_better_113 : decode mX12_better.2.1 113 = .ok (.iload_n 3, 1) := by decide +kernel
theorem dX12_better_114 : decode mX12_better.2.1 114 = .ok (.goto 19, 3) := by decide +kernel
theorem dX12_better_117 : decode mX12_better.2.1 117 = .ok (.iload_n 1, 1) := by decide +kernel
theorem dX12_better_118 : decode mX12_better.2.1 118 = .ok (.iconst 2, 1) := by decide +kernel
theorem dX12_better_119 : decode mX12_better.2.1 119 = .ok (.if_icmp .ne 11, 3) := by decide +kernel
theorem dX12_better_122 : decode mX12_better.2.1 122 = .ok (.aload_n 0, 1) := by decide +kernel
theorem dX12_better_123 : decode mX12_better.2.1 123 = .ok (.iload_n 2, 1) := by decide +kernel
theorem dX12_better_124 : decode mX12_better.2.1 124 = .ok (.invokevirtual 356, 3) := by decide +kernel
theorem dX12_better_127 : decode mX12_better.2.1 127 = .ok (.goto 6, 3) := by decide +kernel
theorem dX12_better_130 : decode mX12_better.2.1 130 = .ok (.ldc_w 359, 3) := by decide +kernel
theorem dX12_better_133 : decode mX12_better.2.1 133 = .ok (.ireturn, 1) := by decide +kernel
theorem dX12_four_0 : decode mX12_four.2.1 0 = .ok (.bipush 24, 2) := by decide +kernel
theorem dX12_four_2 : decode mX12_four.2.1 2 = .ok (.istore_n 2, 1) := by decide +kernel
theorem dX12_four_3 : decode mX12_four.2.1 3 = .ok (.iload_n 2, 1) := by decide +kernel
theorem dX12_four_4 : decode mX12_four.2.1 4 = .ok (.ifCond .lt 32, 3) := by decide +kernel
theorem dX12_four_7 : decode mX12_four.2.1 7 = .ok (.aload_n 0, 1) := by decide +kernel
theorem dX12_four_8 : decode mX12_four.2.1 8 = .ok (.getfield 145, 3) := by decide +kernel
theorem dX12_four_11 : decode mX12_four.2.1 11 = .ok (.aload_n 0, 1) := by decide +kernel
theorem dX12_four_12 : decode mX12_four.2.1 12 = .ok (.getfield 360, 3) := by decide +kernel
theorem dX12_four_15 : decode mX12_four.2.1 15 = .ok (.iload_n 1, 1) := by decide +kernel
theorem dX12_four_16 : decode mX12_four.2.1 16 = .ok (.iload_n 2, 1) := by decide +kernel
theorem dX12_four_17 : decode mX12_four.2.1 17 = .ok (.ishr, 1) := by decide +kernel
theorem dX12_four_18 : decode mX12_four.2.1 18 = .ok (.i2b, 1) := by decide +kernel
theorem dX12_four_19 : decode mX12_four.2.1 19 = .ok (.bastore, 1) := by decide +kernel
theorem dX12_four_20 : decode mX12_four.2.1 20 = .ok (.aload_n 0, 1) := by decide +kernel
theorem dX12_four_21 : decode mX12_four.2.1 21 = .ok (.dup, 1) := by decide +kernel
theorem dX12_four_22 : decode mX12_four.2.1 22 = .ok (.getfield 360, 3) := by decide +kernel
theorem dX12_four_25 : decode mX12_four.2.1 25 = .ok (.iconst 1, 1) := by decide +kernel
theorem dX12_four_26 : decode mX12_four.2.1 26 = .ok (.iadd, 1) := by decide +kernel
theorem dX12_four_27 : decode mX12_four.2.1 27 = .ok (.putfield 360, 3) := by decide +kernel
theorem dX12_four_30 : decode mX12_four.2.1 30 = .ok (.iinc 2 (-8), 3) := by decide +kernel
theorem dX12_four_33 : decode mX12_four.2.1 33 = .ok (.goto (-30), 3) := by decide +kernel
theorem dX12_four_36 : decode mX12_four.2.1 36 = .ok (.return_, 1) := by decide +kernel
theorem dX12_blanks_0 : decode mX12_blanks.2.1 0 = .ok (.aload_n 0, 1) := by decide +kernel
theorem dX12_blanks_1 : decode mX12_blanks.2.1 1 = .ok (.getfield 366, 3) := by decide +kernel
theorem dX12_blanks_4 : decode mX12_blanks.2.1 4 = .ok (.aload_n 0, 1) := by decide +kernel
theorem dX12_blanks_5 : decode mX12_blanks.2.1 5 = .ok (.getfield 369, 3) := by decide +kernel
theorem dX12_blanks_8 : decode mX12_blanks.2.1 8 = .ok (.if_icmp .ge 44, 3) := by decide +kernel
theorem dX12_blanks_11 : decode mX12_blanks.2.1 11 = .ok (.aload_n 0, 1) := by decide +kernel
theorem dX12_blanks_12 : decode mX12_blanks.2.1 12 = .ok (.getfield 149, 3) := by decide +kernel
theorem dX12_blanks_15 : decode mX12_blanks.2.1 15 = .ok (.aload_n 0, 1) := by decide +kernel
theorem dX12_blanks_16 : decode mX12_blanks.2.1 16 = .ok (.getfield 366, 3) := by decide +kernel
theorem dX12_blanks_19 : decode mX12_blanks.2.1 19 = .ok (.baload, 1) := by decide +kernel
theorem dX12_blanks_20 : decode mX12_blanks.2.1 20 = .ok (.bipush 32, 2) := by decide +kernel
theorem dX12_blanks_22 : decode mX12_blanks.2.1 22 = .ok (.if_icmp .eq 17, 3) := by decide +kernel
theorem dX12_blanks_25 : decode mX12_blanks.2.1 25 = .ok (.aload_n 0, 1) := by decide +kernel
theorem dX12_blanks_26 : decode mX12_blanks.2.1 26 = .ok (.getfield 149, 3) := by decide +kernel
theorem dX12_blanks_29 : decode mX12_blanks.2.1 29 = .ok (.aload_n 0, 1) := by decide +kernel
theorem dX12_blanks_30 : decode mX12_blanks.2.1 30 = .ok (.getfield 366, 3) := by decide +kernel
theorem dX12_blanks_33 : decode mX12_blanks.2.1 33 = .ok (.baload, 1) := by decide +kernel
theorem dX12_blanks_34 : decode mX12_blanks.2.1 34 = .ok (.bipush 10, 2) := by decide +kernel
theorem dX12_blanks_36 : decode mX12_blanks.2.1 36 = .ok (.if_icmp .ne 16, 3) := by decide +kernel
theorem dX12_blanks_39 : decode mX12_blanks.2.1 39 = .ok (.aload_n 0, 1) := by decide +kernel
theorem dX12_blanks_40 : decode mX12_blanks.2.1 40 = .ok (.dup, 1) := by decide +kernel
theorem dX12_blanks_41 : decode mX12_blanks.2.1 41 = .ok (.getfield 366, 3) := by decide +kernel
theorem dX12_blanks_44 : decode mX12_blanks.2.1 44 = .ok (.iconst 1, 1) := by decide +kernel
theorem dX12_blanks_45 : decode mX12_blanks.2.1 45 = .ok (.iadd, 1) := by decide +kernel
theorem dX12_blanks_46 : decode mX12_blanks.2.1 46 = .ok (.putfield 366, 3) := by decide +kernel
theorem dX12_blanks_49 : decode mX12_blanks.2.1 49 = .ok (.goto (-49), 3) := by decide +kernel
theorem dX12_blanks_52 : decode mX12_blanks.2.1 52 = .ok (.return_, 1) := by decide +kernel
theorem dX12_word_0 : decode mX12_word.2.1 0 = .ok (.aload_n 0, 1) := by decide +kernel
theorem dX12_word_1 : decode mX12_word.2.1 1 = .ok (.invokevirtual 372, 3) := by decide +kernel
theorem dX12_word_4 : decode mX12_word.2.1 4 = .ok (.aload_n 0, 1) := by decide +kernel
theorem dX12_word_5 : decode mX12_word.2.1 5 = .ok (.aload_n 0, 1) := by decide +kernel
theorem dX12_word_6 : decode mX12_word.2.1 6 = .ok (.getfield 366, 3) := by decide +kernel
theorem dX12_word_9 : decode mX12_word.2.1 9 = .ok (.putfield 375, 3) := by decide +kernel
theorem dX12_word_12 : decode mX12_word.2.1 12 = .ok (.lconst 0, 1) := by decide +kernel
theorem dX12_word_13 : decode mX12_word.2.1 13 = .ok (.lstore_n 1, 1) := by decide +kernel
theorem dX12_word_14 : decode mX12_word.2.1 14 = .ok (.aload_n 0, 1) := by decide +kernel
theorem dX12_word_15 : decode mX12_word.2.1 15 = .ok (.getfield 375, 3) := by decide +kernel
theorem dX12_word_18 : decode mX12_word.2.1 18 = .ok (.aload_n 0, 1) := by decide +kernel
theorem dX12_word_19 : decode mX12_word.2.1 19 = .ok (.getfield 369, 3) := by decide +kernel
theorem dX12_word_22 : decode mX12_word.2.1 22 = .ok (.if_icmp .ge 78, 3) := by decide +kernel
theorem dX12_word_25 : decode mX12_word.2.1 25 = .ok (.aload_n 0, 1) := by decide +kernel
theorem dX12_word_26 : decode mX12_word.2.1 26 = .ok (.getfield 149, 3) := by decide +kernel
theorem dX12_word_29 : decode mX12_word.2.1 29 = .ok (.aload_n 0, 1) := by decide +kernel
theorem dX12_word_30 : decode mX12_word.2.1 30 = .ok (.getfield 375, 3) := by decide +kernel
theorem dX12_word_33 : decode mX12_word.2.1 33 = .ok (.baload, 1) := by decide +kernel
theorem dX12_word_34 : decode mX12_word.2.1 34 = .ok (.bipush 97, 2) := by decide +kernel
theorem dX12_word_36 : decode mX12_word.2.1 36 = .ok (.if_icmp .lt 64, 3) := by decide +kernel
theorem dX12_word_39 : decode mX12_word.2.1 39 = .ok (.aload_n 0, 1) := by decide +kernel
theorem dX12_word_40 : decode mX12_word.2.1 40 = .ok (.getfield 149, 3) := by decide +kernel
theorem dX12_word_43 : decode mX12_word.2.1 43 = .ok (.aload_n 0, 1) := by decide +kernel
theorem dX12_word_44 : decode mX12_word.2.1 44 = .ok (.getfield 375, 3) := by decide +kernel
theorem dX12_word_47 : decode mX12_word.2.1 47 = .ok (.baload, 1) := by decide +kernel
theorem dX12_word_48 : decode mX12_word.2.1 48 = .ok (.bipush 122, 2) := by decide +kernel
theorem dX12_word_50 : decode mX12_word.2.1 50 = .ok (.if_icmp .gt 50, 3) := by decide +kernel
theorem dX12_word_53 : decode mX12_word.2.1 53 = .ok (.aload_n 0, 1) := by decide +kernel
theorem dX12_word_54 : decode mX12_word.2.1 54 = .ok (.getfield 375, 3) := by decide +kernel
theorem dX12_word_57 : decode mX12_word.2.1 57 = .ok (.aload_n 0, 1) := by decide +kernel
theorem dX12_word_58 : decode mX12_word.2.1 58 = .ok (.getfield 366, 3) := by decide +kernel
theorem dX12_word_61 : decode mX12_word.2.1 61 = .ok (.isub, 1) := by decide +kernel
theorem dX12_word_62 : decode mX12_word.2.1 62 = .ok (.bipush 7, 2) := by decide +kernel
theorem dX12_word_64 : decode mX12_word.2.1 64 = .ok (.if_icmp .ge 21, 3) := by decide +kernel
theorem dX12_word_67 : decode mX12_word.2.1 67 = .ok (.lload_n 1, 1) := by decide +kernel
theorem dX12_word_68 : decode mX12_word.2.1 68 = .ok (.bipush 8, 2) := by decide +kernel
theorem dX12_word_70 : decode mX12_word.2.1 70 = .ok (.lshl, 1) := by decide +kernel
theorem dX12_word_71 : decode mX12_word.2.1 71 = .ok (.aload_n 0, 1) := by decide +kernel
theorem dX12_word_72 : decode mX12_word.2.1 72 = .ok (.getfield 149, 3) := by decide +kernel
theorem dX12_word_75 : decode mX12_word.2.1 75 = .ok (.aload_n 0, 1) := by decide +kernel
theorem dX12_word_76 : decode mX12_word.2.1 76 = .ok (.getfield 375, 3) := by decide +kernel
theorem dX12_word_79 : decode mX12_word.2.1 79 = .ok (.baload, 1) := by decide +kernel
theorem dX12_word_80 : decode mX12_word.2.1 80 = .ok (.i2l, 1) := by decide +kernel
theorem dX12_word_81 : decode mX12_word.2.1 81 = .ok (.lor, 1) := by decide +kernel
theorem dX12_word_82 : decode mX12_word.2.1 82 = .ok (.goto 4, 3) := by decide +kernel
theorem dX12_word_85 : decode mX12_word.2.1 85 = .ok (.lconst 0, 1) := by decide +kernel
theorem dX12_word_86 : decode mX12_word.2.1 86 = .ok (.lstore_n 1, 1) := by decide +kernel
theorem dX12_word_87 : decode mX12_word.2.1 87 = .ok (.aload_n 0, 1) := by decide +kernel
theorem dX12_word_88 : decode mX12_word.2.1 88 = .ok (.dup, 1) := by decide +kernel
theorem dX12_word_89 : decode mX12_word.2.1 89 = .ok (.getfield 375, 3) := by decide +kernel
theorem dX12_word_92 : decode mX12_word.2.1 92 = .ok (.iconst 1, 1) := by decide +kernel
theorem dX12_word_93 : decode mX12_word.2.1 93 = .ok (.iadd, 1) := by decide +kernel
theorem dX12_word_94 : decode mX12_word.2.1 94 = .ok (.putfield 375, 3) := by decide +kernel
theorem dX12_word_97 : decode mX12_word.2.1 97 = .ok (.goto (-83), 3) := by decide +kernel
theorem dX12_word_100 : decode mX12_word.2.1 100 = .ok (.aload_n 0, 1) := by decide +kernel
theorem dX12_word_101 : decode mX12_word.2.1 101 = .ok (.getfield 375, 3) := by decide +kernel
theorem dX12_word_104 : decode mX12_word.2.1 104 = .ok (.aload_n 0, 1) := by decide +kernel
theorem dX12_word_105 : decode mX12_word.2.1 105 = .ok (.getfield 366, 3) := by decide +kernel
theorem dX12_word_108 : decode mX12_word.2.1 108 = .ok (.isub, 1) := by decide +kernel
theorem dX12_word_109 : decode mX12_word.2.1 109 = .ok (.bipush 7, 2) := by decide +kernel
theorem dX12_word_111 : decode mX12_word.2.1 111 = .ok (.if_icmp .le 7, 3) := by decide +kernel
theorem dX12_word_114 : decode mX12_word.2.1 114 = .ok (.lconst 0, 1) := by decide +kernel
theorem dX12_word_115 : decode mX12_word.2.1 115 = .ok (.goto 4, 3) := by decide +kernel
theorem dX12_word_118 : decode mX12_word.2.1 118 = .ok (.lload_n 1, 1) := by decide +kernel
theorem dX12_word_119 : decode mX12_word.2.1 119 = .ok (.lreturn, 1) := by decide +kernel
theorem dX12_takes_0 : decode mX12_takes.2.1 0 = .ok (.aload_n 0, 1) := by decide +kernel
theorem dX12_takes_1 : decode mX12_takes.2.1 1 = .ok (.invokevirtual 378, 3) := by decide +kernel
theorem dX12_takes_4 : decode mX12_takes.2.1 4 = .ok (.lload_n 1, 1) := by decide +kernel
theorem dX12_takes_5 : decode mX12_takes.2.1 5 = .ok (.lcmp, 1) := by decide +kernel
theorem dX12_takes_6 : decode mX12_takes.2.1 6 = .ok (.ifCond .eq 5, 3) := by decide +kernel
theorem dX12_takes_9 : decode mX12_takes.2.1 9 = .ok (.iconst 0, 1) := by decide +kernel
theorem dX12_takes_10 : decode mX12_takes.2.1 10 = .ok (.ireturn, 1) := by decide +kernel
theorem dX12_takes_11 : decode mX12_takes.2.1 11 = .ok (.aload_n 0, 1) := by decide +kernel
theorem dX12_takes_12 : decode mX12_takes.2.1 12 = .ok (.aload_n 0, 1) := by decide +kernel
theorem dX12_takes_13 : decode mX12_takes.2.1 13 = .ok (.getfield 375, 3) := by decide +kernel
theorem dX12_takes_16 : decode mX12_takes.2.1 16 = .ok (.putfield 366, 3) := by decide +kernel
theorem dX12_takes_19 : decode mX12_takes.2.1 19 = .ok (.iconst 1, 1) := by decide +kernel
theorem dX12_takes_20 : decode mX12_takes.2.1 20 = .ok (.ireturn, 1) := by decide +kernel
theorem dX12_takesSign_0 : decode mX12_takesSign.2.1 0 = .ok (.aload_n 0, 1) := by decide +kernel
theorem dX12_takesSign_1 : decode mX12_takesSign.2.1 1 = .ok (.invokevirtual 372, 3) := by decide +kernel
theorem dX12_takesSign_4 : decode mX12_takesSign.2.1 4 = .ok (.aload_n 0, 1) := by decide +kernel
theorem dX12_takesSign_5 : decode mX12_takesSign.2.1 5 = .ok (.getfield 366, 3) := by decide +kernel
theorem dX12_takesSign_8 : decode mX12_takesSign.2.1 8 = .ok (.aload_n 0, 1) := by decide +kernel
theorem dX12_takesSign_9 : decode mX12_takesSign.2.1 9 = .ok (.getfield 369, 3) := by decide +kernel
theorem dX12_takesSign_12 : decode mX12_takesSign.2.1 12 = .ok (.if_icmp .eq 16, 3) := by decide +kernel
theorem dX12_takesSign_15 : decode mX12_takesSign.2.1 15 = .ok (.aload_n 0, 1) := by decide +kernel
theorem dX12_takesSign_16 : decode mX12_takesSign.2.1 16 = .ok (.getfield 149, 3) := by decide +kernel
theorem dX12_takesSign_19 : decode mX12_takesSign.2.1 19 = .ok (.aload_n 0, 1) := by decide +kernel
theorem dX12_takesSign_20 : decode mX12_takesSign.2.1 20 = .ok (.getfield 366, 3) := by decide +kernel
theorem dX12_takesSign_23 : decode mX12_takesSign.2.1 23 = .ok (.baload, 1) := by decide +kernel
theorem dX12_takesSign_24 : decode mX12_takesSign.2.1 24 = .ok (.iload_n 1, 1) := by decide +kernel
theorem dX12_takesSign_25 : decode mX12_takesSign.2.1 25 = .ok (.if_icmp .eq 5, 3) := by decide +kernel
theorem dX12_takesSign_28 : decode mX12_takesSign.2.1 28 = .ok (.iconst 0, 1) := by decide +kernel
theorem dX12_takesSign_29 : decode mX12_takesSign.2.1 29 = .ok (.ireturn, 1) := by decide +kernel
theorem dX12_takesSign_30 : decode mX12_takesSign.2.1 30 = .ok (.aload_n 0, 1) := by decide +kernel
theorem dX12_takesSign_31 : decode mX12_takesSign.2.1 31 = .ok (.dup, 1) := by decide +kernel
theorem dX12_takesSign_32 : decode mX12_takesSign.2.1 32 = .ok (.getfield 366, 3) := by decide +kernel
theorem dX12_takesSign_35 : decode mX12_takesSign.2.1 35 = .ok (.iconst 1, 1) := by decide +kernel
theorem dX12_takesSign_36 : decode mX12_takesSign.2.1 36 = .ok (.iadd, 1) := by decide +kernel
theorem dX12_takesSign_37 : decode mX12_takesSign.2.1 37 = .ok (.putfield 366, 3) := by decide +kernel
theorem dX12_takesSign_40 : decode mX12_takesSign.2.1 40 = .ok (.iconst 1, 1) := by decide +kernel
theorem dX12_takesSign_41 : decode mX12_takesSign.2.1 41 = .ok (.ireturn, 1) := by decide +kernel
theorem dX12_takesNumber_0 : decode mX12_takesNumber.2.1 0 = .ok (.aload_n 0, 1) := by decide +kernel
theorem dX12_takesNumber_1 : decode mX12_takesNumber.2.1 1 = .ok (.invokevirtual 372, 3) := by decide +kernel
theorem dX12_takesNumber_4 : decode mX12_takesNumber.2.1 4 = .ok (.aload_n 0, 1) := by decide +kernel
theorem dX12_takesNumber_5 : decode mX12_takesNumber.2.1 5 = .ok (.getfield 366, 3) := by decide +kernel
theorem dX12_takesNumber_8 : decode mX12_takesNumber.2.1 8 = .ok (.istore_n 1, 1) := by decide +kernel
theorem dX12_takesNumber_9 : decode mX12_takesNumber.2.1 9 = .ok (.aload_n 0, 1) := by decide +kernel
theorem dX12_takesNumber_10 : decode mX12_takesNumber.2.1 10 = .ok (.iconst 0, 1) := by decide +kernel
theorem dX12_takesNumber_11 : decode mX12_takesNumber.2.1 11 = .ok (.putfield 382, 3) := by decide +kernel
theorem dX12_takesNumber_14 : decode mX12_takesNumber.2.1 14 = .ok (.iload_n 1, 1) := by decide +kernel
theorem dX12_takesNumber_15 : decode mX12_takesNumber.2.1 15 = .ok (.aload_n 0, 1) := by decide +kernel
theorem dX12_takesNumber_16 : decode mX12_takesNumber.2.1 16 = .ok (.getfield 369, 3) := by decide +kernel
theorem dX12_takesNumber_19 : decode mX12_takesNumber.2.1 19 = .ok (.if_icmp .ge 62, 3) := by decide +kernel
theorem dX12_takesNumber_22 : decode mX12_takesNumber.2.1 22 = .ok (.aload_n 0, 1) := by decide +kernel
theorem dX12_takesNumber_23 : decode mX12_takesNumber.2.1 23 = .ok (.getfield 149, 3) := by decide +kernel
theorem dX12_takesNumber_26 : decode mX12_takesNumber.2.1 26 = .ok (.iload_n 1, 1) := by decide +kernel
theorem dX12_takesNumber_27 : decode mX12_takesNumber.2.1 27 = .ok (.baload, 1) := by decide +kernel
theorem dX12_takesNumber_28 : decode mX12_takesNumber.2.1 28 = .ok (.bipush 48, 2) := by decide +kernel
theorem dX12_takesNumber_30 : decode mX12_takesNumber.2.1 30 = .ok (.if_icmp .lt 51, 3) := by decide +kernel
theorem dX12_takesNumber_33 : decode mX12_takesNumber.2.1 33 = .ok (.aload_n 0, 1) := by decide +kernel
theorem dX12_takesNumber_34 : decode mX12_takesNumber.2.1 34 = .ok (.getfield 149, 3) := by decide +kernel
theorem dX12_takesNumber_37 : decode mX12_takesNumber.2.1 37 = .ok (.iload_n 1, 1) := by decide +kernel
theorem dX12_takesNumber_38 : decode mX12_takesNumber.2.1 38 = .ok (.baload, 1) := by decide +kernel
theorem dX12_takesNumber_39 : decode mX12_takesNumber.2.1 39 = .ok (.bipush 57, 2) := by decide +kernel
theorem dX12_takesNumber_41 : decode mX12_takesNumber.2.1 41 = .ok (.if_icmp .gt 40, 3) := by decide +kernel
theorem dX12_takesNumber_44 : decode mX12_takesNumber.2.1 44 = .ok (.iload_n 1, 1) := by decide +kernel
theorem dX12_takesNumber_45 : decode mX12_takesNumber.2.1 45 = .ok (.aload_n 0, 1) := by decide +kernel
theorem dX12_takesNumber_46 : decode mX12_takesNumber.2.1 46 = .ok (.getfield 366, 3) := by decide +kernel
theorem dX12_takesNumber_49 : decode mX12_takesNumber.2.1 49 = .ok (.isub, 1) := by decide +kernel
theorem dX12_takesNumber_50 : decode mX12_takesNumber.2.1 50 = .ok (.iconst 5, 1) := by decide +kernel
theorem dX12_takesNumber_51 : decode mX12_takesNumber.2.1 51 = .ok (.if_icmp .ge 24, 3) := by decide +kernel
theorem dX12_takesNumber_54 : decode mX12_takesNumber.2.1 54 = .ok (.aload_n 0, 1) := by decide +kernel
theorem dX12_takesNumber_55 : decode mX12_takesNumber.2.1 55 = .ok (.bipush 10, 2) := by decide +kernel
theorem dX12_takesNumber_57 : decode mX12_takesNumber.2.1 57 = .ok (.aload_n 0, 1) := by decide +kernel
theorem dX12_takesNumber_58 : decode mX12_takesNumber.2.1 58 = .ok (.getfield 382, 3) := by decide +kernel
theorem dX12_takesNumber_61 : decode mX12_takesNumber.2.1 61 = .ok (.imul, 1) := by decide +kernel
theorem dX12_takesNumber_62 : decode mX12_takesNumber.2.1 62 = .ok (.aload_n 0, 1) := by decide +kernel
theorem dX12_takesNumber_63 : decode mX12_takesNumber.2.1 63 = .ok (.getfield 149, 3) := by decide +kernel
theorem dX12_takesNumber_66 : decode mX12_takesNumber.2.1 66 = .ok (.iload_n 1, 1) := by decide +kernel
theorem dX12_takesNumber_67 : decode mX12_takesNumber.2.1 67 = .ok (.baload, 1) := by decide +kernel
theorem dX12_takesNumber_68 : decode mX12_takesNumber.2.1 68 = .ok (.iadd, 1) := by decide +kernel
theorem dX12_takesNumber_69 : decode mX12_takesNumber.2.1 69 = .ok (.bipush 48, 2) := by decide +kernel
theorem dX12_takesNumber_71 : decode mX12_takesNumber.2.1 71 = .ok (.isub, 1) := by decide +kernel
theorem dX12_takesNumber_72 : decode mX12_takesNumber.2.1 72 = .ok (.putfield 382, 3) := by decide +kernel
theorem dX12_takesNumber_75 : decode mX12_takesNumber.2.1 75 = .ok (.iinc 1 1, 3) := by decide +kernel
theorem dX12_takesNumber_78 : decode mX12_takesNumber.2.1 78 = .ok (.goto (-64), 3) := by decide +kernel
theorem dX12_takesNumber_81 : decode mX12_takesNumber.2.1 81 = .ok (.iload_n 1, 1) := by decide +kernel
theorem dX12_takesNumber_82 : decode mX12_takesNumber.2.1 82 = .ok (.aload_n 0, 1) := by decide +kernel
theorem dX12_takesNumber_83 : decode mX12_takesNumber.2.1 83 = .ok (.getfield 366, 3) := by decide +kernel
theorem dX12_takesNumber_86 : decode mX12_takesNumber.2.1 86 = .ok (.if_icmp .eq 13, 3) := by decide +kernel
theorem dX12_takesNumber_89 : decode mX12_takesNumber.2.1 89 = .ok (.iload_n 1, 1) := by decide +kernel
theorem dX12_takesNumber_90 : decode mX12_takesNumber.2.1 90 = .ok (.aload_n 0, 1) := by decide +kernel
theorem dX12_takesNumber_91 : decode mX12_takesNumber.2.1 91 = .ok (.getfield 366, 3) := by decide +kernel
theorem dX12_takesNumber_94 : decode mX12_takesNumber.2.1 94 = .ok (.isub, 1) := by decide +kernel
theorem dX12_takesNumber_95 : decode mX12_takesNumber.2.1 95 = .ok (.iconst 5, 1) := by decide +kernel
theorem dX12_takesNumber_96 : decode mX12_takesNumber.2.1 96 = .ok (.if_icmp .le 5, 3) := by decide +kernel
theorem dX12_takesNumber_99 : decode mX12_takesNumber.2.1 99 = .ok (.iconst 0, 1) := by decide +kernel
theorem dX12_takesNumber_100 : decode mX12_takesNumber.2.1 100 = .ok (.ireturn, 1) := by decide +kernel
theorem dX12_takesNumber_101 : decode mX12_takesNumber.2.1 101 = .ok (.aload_n 0, 1) := by decide +kernel
theorem dX12_takesNumber_102 : decode mX12_takesNumber.2.1 102 = .ok (.iload_n 1, 1) := by decide +kernel
theorem dX12_takesNumber_103 : decode mX12_takesNumber.2.1 103 = .ok (.putfield 366, 3) := by decide +kernel
theorem dX12_takesNumber_106 : decode mX12_takesNumber.2.1 106 = .ok (.iconst 1, 1) := by decide +kernel
theorem dX12_takesNumber_107 : decode mX12_takesNumber.2.1 107 = .ok (.ireturn, 1) := by decide +kernel
theorem dX12_asked_0 : decode mX12_asked.2.1 0 = .ok (.lload_n 0, 1) := by decide +kernel
theorem dX12_asked_1 : decode mX12_asked.2.1 1 = .ok (.ldc2_w 385, 3) := by decide +kernel
theorem dX12_asked_4 : decode mX12_asked.2.1 4 = .ok (.lcmp, 1) := by decide +kernel
theorem dX12_asked_5 : decode mX12_asked.2.1 5 = .ok (.ifCond .ne 7, 3) := by decide +kernel
theorem dX12_asked_8 : decode mX12_asked.2.1 8 = .ok (.iconst 0, 1) := by decide +kernel
theorem dX12_asked_9 : decode mX12_asked.2.1 9 = .ok (.goto 90, 3) := by decide +kernel
theorem dX12_asked_12 : decode mX12_asked.2.1 12 = .ok (.lload_n 0, 1) := by decide +kernel
theorem dX12_asked_13 : decode mX12_asked.2.1 13 = .ok (.ldc2_w 387, 3) := by decide +kernel
theorem dX12_asked_16 : decode mX12_asked.2.1 16 = .ok (.lcmp, 1) := by decide +kernel
theorem dX12_asked_17 : decode mX12_asked.2.1 17 = .ok (.ifCond .ne 7, 3) := by decide +kernel
theorem dX12_asked_20 : decode mX12_asked.2.1 20 = .ok (.iconst 1, 1) := by decide +kernel
theorem dX12_asked_21 : decode mX12_asked.2.1 21 = .ok (.goto 78, 3) := by decide +kernel
theorem dX12_asked_24 : decode mX12_asked.2.1 24 = .ok (.lload_n 0, 1) := by decide +kernel
theorem dX12_asked_25 : decode mX12_asked.2.1 25 = .ok (.ldc2_w 389, 3) := by decide +kernel
theorem dX12_asked_28 : decode mX12_asked.2.1 28 = .ok (.lcmp, 1) := by decide +kernel
theorem dX12_asked_29 : decode mX12_asked.2.1 29 = .ok (.ifCond .ne 7, 3) := by decide +kernel
theorem dX12_asked_32 : decode mX12_asked.2.1 32 = .ok (.iconst 2, 1) := by decide +kernel
theorem dX12_asked_33 : decode mX12_asked.2.1 33 = .ok (.goto 66, 3) := by decide +kernel
theorem dX12_asked_36 : decode mX12_asked.2.1 36 = .ok (.lload_n 0, 1) := by decide +kernel
theorem dX12_asked_37 : decode mX12_asked.2.1 37 = .ok (.ldc2_w 391, 3) := by decide +kernel
theorem dX12_asked_40 : decode mX12_asked.2.1 40 = .ok (.lcmp, 1) := by decide +kernel
theorem dX12_asked_41 : decode mX12_asked.2.1 41 = .ok (.ifCond .ne 7, 3) := by decide +kernel
theorem dX12_asked_44 : decode mX12_asked.2.1 44 = .ok (.iconst 3, 1) := by decide +kernel
theorem dX12_asked_45 : decode mX12_asked.2.1 45 = .ok (.goto 54, 3) := by decide +kernel
theorem dX12_asked_48 : decode mX12_asked.2.1 48 = .ok (.lload_n 0, 1) := by decide +kernel
theorem dX12_asked_49 : decode mX12_asked.2.1 49 = .ok (.ldc2_w 393, 3) := by decide +kernel
theorem dX12_asked_52 : decode mX12_asked.2.1 52 = .ok (.lcmp, 1) := by decide +kernel
theorem dX12_asked_53 : decode mX12_asked.2.1 53 = .ok (.ifCond .ne 7, 3) := by decide +kernel
theorem dX12_asked_56 : decode mX12_asked.2.1 56 = .ok (.iconst 4, 1) := by decide +kernel
theorem dX12_asked_57 : decode mX12_asked.2.1 57 = .ok (.goto 42, 3) := by decide +kernel
theorem dX12_asked_60 : decode mX12_asked.2.1 60 = .ok (.lload_n 0, 1) := by decide +kernel
theorem dX12_asked_61 : decode mX12_asked.2.1 61 = .ok (.ldc2_w 395, 3) := by decide +kernel
theorem dX12_asked_64 : decode mX12_asked.2.1 64 = .ok (.lcmp, 1) := by decide +kernel
theorem dX12_asked_65 : decode mX12_asked.2.1 65 = .ok (.ifCond .ne 7, 3) := by decide +kernel
theorem dX12_asked_68 : decode mX12_asked.2.1 68 = .ok (.iconst 5, 1) := by decide +kernel
theorem dX12_asked_69 : decode mX12_asked.2.1 69 = .ok (.goto 30, 3) := by decide +kernel
theorem dX12_asked_72 : decode mX12_asked.2.1 72 = .ok (.lload_n 0, 1) := by decide +kernel
theorem dX12_asked_73 : decode mX12_asked.2.1 73 = .ok (.ldc2_w 397, 3) := by decide +kernel
theorem dX12_asked_76 : decode mX12_asked.2.1 76 = .ok (.lcmp, 1) := by decide +kernel
theorem dX12_asked_77 : decode mX12_asked.2.1 77 = .ok (.ifCond .ne 8, 3) := by decide +kernel
theorem dX12_asked_80 : decode mX12_asked.2.1 80 = .ok (.bipush 6, 2) := by decide +kernel
theorem dX12_asked_82 : decode mX12_asked.2.1 82 = .ok (.goto 17, 3) := by decide +kernel
theorem dX12_asked_85 : decode mX12_asked.2.1 85 = .ok (.lload_n 0, 1) := by decide +kernel
theorem dX12_asked_86 : decode mX12_asked.2.1 86 = .ok (.ldc2_w 399, 3) := by decide +kernel
theorem dX12_asked_89 : decode mX12_asked.2.1 89 = .ok (.lcmp, 1) := by decide +kernel
theorem dX12_asked_90 : decode mX12_asked.2.1 90 = .ok (.ifCond .ne 8, 3) := by decide +kernel
theorem dX12_asked_93 : decode mX12_asked.2.1 93 = .ok (.bipush 7, 2) := by decide +kernel
theorem dX12_asked_95 : decode mX12_asked.2.1 95 = .ok (.goto 4, 3) := by decide +kernel
theorem dX12_asked_98 : decode mX12_asked.2.1 98 = .ok (.iconst (-1), 1) := by decide +kernel
theorem dX12_asked_99 : decode mX12_asked.2.1 99 = .ok (.ireturn, 1) := by decide +kernel
theorem dX12_puts_0 : decode mX12_puts.2.1 0 = .ok (.aload_n 0, 1) := by decide +kernel
theorem dX12_puts_1 : decode mX12_puts.2.1 1 = .ok (.getfield 133, 3) := by decide +kernel
theorem dX12_puts_4 : decode mX12_puts.2.1 4 = .ok (.aload_n 0, 1) := by decide +kernel
theorem dX12_puts_5 : decode mX12_puts.2.1 5 = .ok (.getfield 401, 3) := by decide +kernel
theorem dX12_puts_8 : decode mX12_puts.2.1 8 = .ok (.iload_n 1, 1) := by decide +kernel
theorem dX12_puts_9 : decode mX12_puts.2.1 9 = .ok (.iastore, 1) := by decide +kernel
theorem dX12_puts_10 : decode mX12_puts.2.1 10 = .ok (.aload_n 0, 1) := by decide +kernel
theorem dX12_puts_11 : decode mX12_puts.2.1 11 = .ok (.getfield 136, 3) := by decide +kernel
theorem dX12_puts_14 : decode mX12_puts.2.1 14 = .ok (.aload_n 0, 1) := by decide +kernel
theorem dX12_puts_15 : decode mX12_puts.2.1 15 = .ok (.getfield 401, 3) := by decide +kernel
theorem dX12_puts_18 : decode mX12_puts.2.1 18 = .ok (.iload_n 2, 1) := by decide +kernel
theorem dX12_puts_19 : decode mX12_puts.2.1 19 = .ok (.iastore, 1) := by decide +kernel
theorem dX12_puts_20 : decode mX12_puts.2.1 20 = .ok (.aload_n 0, 1) := by decide +kernel
theorem dX12_puts_21 : decode mX12_puts.2.1 21 = .ok (.dup, 1) := by decide +kernel
theorem dX12_puts_22 : decode mX12_puts.2.1 22 = .ok (.getfield 401, 3) := by decide +kernel
theorem dX12_puts_25 : decode mX12_puts.2.1 25 = .ok (.iconst 1, 1) := by decide +kernel
theorem dX12_puts_26 : decode mX12_puts.2.1 26 = .ok (.iadd, 1) := by decide +kernel
theorem dX12_puts_27 : decode mX12_puts.2.1 27 = .ok (.putfield 401, 3) := by decide +kernel
theorem dX12_puts_30 : decode mX12_puts.2.1 30 = .ok (.return_, 1) := by decide +kernel
theorem dX12_opens_0 : decode mX12_opens.2.1 0 = .ok (.aload_n 0, 1) := by decide +kernel
theorem dX12_opens_1 : decode mX12_opens.2.1 1 = .ok (.getfield 404, 3) := by decide +kernel
theorem dX12_opens_4 : decode mX12_opens.2.1 4 = .ok (.bipush 9, 2) := by decide +kernel
theorem dX12_opens_6 : decode mX12_opens.2.1 6 = .ok (.if_icmp .ne 5, 3) := by decide +kernel
theorem dX12_opens_9 : decode mX12_opens.2.1 9 = .ok (.iconst 0, 1) := by decide +kernel
theorem dX12_opens_10 : decode mX12_opens.2.1 10 = .ok (.ireturn, 1) := by decide +kernel
theorem dX12_opens_11 : decode mX12_opens.2.1 11 = .ok (.aload_n 0, 1) := by decide +kernel
theorem dX12_opens_12 : decode mX12_opens.2.1 12 = .ok (.dup, 1) := by decide +kernel
theorem dX12_opens_13 : decode mX12_opens.2.1 13 = .ok (.getfield 404, 3) := by decide +kernel
theorem dX12_opens_16 : decode mX12_opens.2.1 16 = .ok (.iconst 1, 1) := by decide +kernel
theorem dX12_opens_17 : decode mX12_opens.2.1 17 = .ok (.iadd, 1) := by decide +kernel
theorem dX12_opens_18 : decode mX12_opens.2.1 18 = .ok (.putfield 404, 3) := by decide +kernel
theorem dX12_opens_21 : decode mX12_opens.2.1 21 = .ok (.iconst 1, 1) := by decide +kernel
theorem dX12_opens_22 : decode mX12_opens.2.1 22 = .ok (.ireturn, 1) := by decide +kernel
theorem dX12_atom_0 : decode mX12_atom.2.1 0 = .ok (.aload_n 0, 1) := by decide +kernel
theorem dX12_atom_1 : decode mX12_atom.2.1 1 = .ok (.invokevirtual 407, 3) := by decide +kernel
theorem dX12_atom_4 : decode mX12_atom.2.1 4 = .ok (.ifCond .eq 14, 3) := by decide +kernel
theorem dX12_atom_7 : decode mX12_atom.2.1 7 = .ok (.aload_n 0, 1) := by decide +kernel
theorem dX12_atom_8 : decode mX12_atom.2.1 8 = .ok (.iconst 0, 1) := by decide +kernel
theorem dX12_atom_9 : decode mX12_atom.2.1 9 = .ok (.aload_n 0, 1) := by decide +kernel
theorem dX12_atom_10 : decode mX12_atom.2.1 10 = .ok (.getfield 382, 3) := by decide +kernel
theorem dX12_atom_13 : decode mX12_atom.2.1 13 = .ok (.invokevirtual 410, 3) := by decide +kernel
theorem dX12_atom_16 : decode mX12_atom.2.1 16 = .ok (.iconst 1, 1) := by decide +kernel
theorem dX12_atom_17 : decode mX12_atom.2.1 17 = .ok (.ireturn, 1) := by decide +kernel
theorem dX12_atom_18 : decode mX12_atom.2.1 18 = .ok (.aload_n 0, 1) := by decide +kernel
theorem dX12_atom_19 : decode mX12_atom.2.1 19 = .ok (.invokevirtual 372, 3) := by decide +kernel
theorem dX12_atom_22 : decode mX12_atom.2.1 22 = .ok (.aload_n 0, 1) := by decide +kernel
theorem dX12_atom_23 : decode mX12_atom.2.1 23 = .ok (.getfield 366, 3) := by decide +kernel
theorem dX12_atom_26 : decode mX12_atom.2.1 26 = .ok (.aload_n 0, 1) := by decide +kernel
theorem dX12_atom_27 : decode mX12_atom.2.1 27 = .ok (.getfield 369, 3) := by decide +kernel
theorem dX12_atom_30 : decode mX12_atom.2.1 30 = .ok (.if_icmp .ge 66, 3) := by decide +kernel
theorem dX12_atom_33 : decode mX12_atom.2.1 33 = .ok (.aload_n 0, 1) := by decide +kernel
theorem dX12_atom_34 : decode mX12_atom.2.1 34 = .ok (.getfield 149, 3) := by decide +kernel
theorem dX12_atom_37 : decode mX12_atom.2.1 37 = .ok (.aload_n 0, 1) := by decide +kernel
theorem dX12_atom_38 : decode mX12_atom.2.1 38 = .ok (.getfield 366, 3) := by decide +kernel
theorem dX12_atom_41 : decode mX12_atom.2.1 41 = .ok (.baload, 1) := by decide +kernel
theorem dX12_atom_42 : decode mX12_atom.2.1 42 = .ok (.bipush 40, 2) := by decide +kernel
theorem dX12_atom_44 : decode mX12_atom.2.1 44 = .ok (.if_icmp .ne 52, 3) := by decide +kernel
theorem dX12_atom_47 : decode mX12_atom.2.1 47 = .ok (.aload_n 0, 1) := by decide +kernel
theorem dX12_atom_48 : decode mX12_atom.2.1 48 = .ok (.invokevirtual 413, 3) := by decide +kernel
theorem dX12_atom_51 : decode mX12_atom.2.1 51 = .ok (.ifCond .ne 5, 3) := by decide +kernel
theorem dX12_atom_54 : decode mX12_atom.2.1 54 = .ok (.iconst 0, 1) := by decide +kernel
theorem dX12_atom_55 : decode mX12_atom.2.1 55 = .ok (.ireturn, 1) := by decide +kernel
theorem dX12_atom_56 : decode mX12_atom.2.1 56 = .ok (.aload_n 0, 1) := by decide +kernel
theorem dX12_atom_57 : decode mX12_atom.2.1 57 = .ok (.dup, 1) := by decide +kernel
theorem dX12_atom_58 : decode mX12_atom.2.1 58 = .ok (.getfield 366, 3) := by decide +kernel
theorem dX12_atom_61 : decode mX12_atom.2.1 61 = .ok (.iconst 1, 1) := by decide +kernel
theorem dX12_atom_62 : decode mX12_atom.2.1 62 = .ok (.iadd, 1) := by decide +kernel
theorem dX12_atom_63 : decode mX12_atom.2.1 63 = .ok (.putfield 366, 3) := by decide +kernel
theorem dX12_atom_66 : decode mX12_atom.2.1 66 = .ok (.aload_n 0, 1) := by decide +kernel
theorem dX12_atom_67 : decode mX12_atom.2.1 67 = .ok (.invokevirtual 416, 3) := by decide +kernel
theorem dX12_atom_70 : decode mX12_atom.2.1 70 = .ok (.ifCond .eq 12, 3) := by decide +kernel
theorem dX12_atom_73 : decode mX12_atom.2.1 73 = .ok (.aload_n 0, 1) := by decide +kernel
theorem dX12_atom_74 : decode mX12_atom.2.1 74 = .ok (.bipush 41, 2) := by decide +kernel
theorem dX12_atom_76 : decode mX12_atom.2.1 76 = .ok (.invokevirtual 419, 3) := by decide +kernel
theorem dX12_atom_79 : decode mX12_atom.2.1 79 = .ok (.ifCond .ne 5, 3) := by decide +kernel
theorem dX12_atom_82 : decode mX12_atom.2.1 82 = .ok (.iconst 0, 1) := by decide +kernel
theorem dX12_atom_83 : decode mX12_atom.2.1 83 = .ok (.ireturn, 1) := by decide +kernel
theorem dX12_atom_84 : decode mX12_atom.2.1 84 = .ok (.aload_n 0, 1) := by decide +kernel
theorem dX12_atom_85 : decode mX12_atom.2.1 85 = .ok (.dup, 1) := by decide +kernel
theorem dX12_atom_86 : decode mX12_atom.2.1 86 = .ok (.getfield 404, 3) := by decide +kernel
theorem dX12_atom_89 : decode mX12_atom.2.1 89 = .ok (.iconst 1, 1) := by decide +kernel
theorem dX12_atom_90 : decode mX12_atom.2.1 90 = .ok (.isub, 1) := by decide +kernel
theorem dX12_atom_91 : decode mX12_atom.2.1 91 = .ok (.putfield 404, 3) := by decide +kernel
theorem dX12_atom_94 : decode mX12_atom.2.1 94 = .ok (.iconst 1, 1) := by decide +kernel
theorem dX12_atom_95 : decode mX12_atom.2.1 95 = .ok (.ireturn, 1) := by decide +kernel
theorem dX12_atom_96 : decode mX12_atom.2.1 96 = .ok (.aload_n 0, 1) := by decide +kernel
theorem dX12_atom_97 : decode mX12_atom.2.1 97 = .ok (.invokevirtual 378, 3) := by decide +kernel
theorem dX12_atom_100 : decode mX12_atom.2.1 100 = .ok (.invokestatic 422, 3) := by decide +kernel
theorem dX12_atom_103 : decode mX12_atom.2.1 103 = .ok (.istore_n 1, 1) := by decide +kernel
theorem dX12_atom_104 : decode mX12_atom.2.1 104 = .ok (.iload_n 1, 1) := by decide +kernel
theorem dX12_atom_105 : decode mX12_atom.2.1 105 = .ok (.iconst (-1), 1) := by decide +kernel
theorem dX12_atom_106 : decode mX12_atom.2.1 106 = .ok (.if_icmp .ne 5, 3) := by decide +kernel
theorem dX12_atom_109 : decode mX12_atom.2.1 109 = .ok (.iconst 0, 1) := by decide +kernel
theorem dX12_atom_110 : decode mX12_atom.2.1 110 = .ok (.ireturn, 1) := by decide +kernel
theorem dX12_atom_111 : decode mX12_atom.2.1 111 = .ok (.aload_n 0, 1) := by decide +kernel
theorem dX12_atom_112 : decode mX12_atom.2.1 112 = .ok (.aload_n 0, 1) := by decide +kernel
theorem dX12_atom_113 : decode mX12_atom.2.1 113 = .ok (.getfield 375, 3) := by decide +kernel
theorem dX12_atom_116 : decode mX12_atom.2.1 116 = .ok (.putfield 366, 3) := by decide +kernel
theorem dX12_atom_119 : decode mX12_atom.2.1 119 = .ok (.aload_n 0, 1) := by decide +kernel
theorem dX12_atom_120 : decode mX12_atom.2.1 120 = .ok (.iconst 1, 1) := by decide +kernel
theorem dX12_atom_121 : decode mX12_atom.2.1 121 = .ok (.iload_n 1, 1) := by decide +kernel
theorem dX12_atom_122 : decode mX12_atom.2.1 122 = .ok (.invokevirtual 410, 3) := by decide +kernel
theorem dX12_atom_125 : decode mX12_atom.2.1 125 = .ok (.iconst 1, 1) := by decide +kernel
theorem dX12_atom_126 : decode mX12_atom.2.1 126 = .ok (.ireturn, 1) := by decide +kernel
theorem dX12_product_0 : decode mX12_product.2.1 0 = .ok (.aload_n 0, 1) := by decide +kernel
theorem dX12_product_1 : decode mX12_product.2.1 1 = .ok (.invokevirtual 426, 3) := by decide +kernel
theorem dX12_product_4 : decode mX12_product.2.1 4 = .ok (.ifCond .ne 5, 3) := by decide +kernel
theorem dX12_product_7 : decode mX12_product.2.1 7 = .ok (.iconst 0, 1) := by decide +kernel
theorem dX12_product_8 : decode mX12_product.2.1 8 = .ok (.ireturn, 1) := by decide +kernel
theorem dX12_product_9 : decode mX12_product.2.1 9 = .ok (.aload_n 0, 1) := by decide +kernel
theorem dX12_product_10 : decode mX12_product.2.1 10 = .ok (.bipush 42, 2) := by decide +kernel
theorem dX12_product_12 : decode mX12_product.2.1 12 = .ok (.invokevirtual 419, 3) := by decide +kernel
theorem dX12_product_15 : decode mX12_product.2.1 15 = .ok (.ifCond .eq 7, 3) := by decide +kernel
theorem dX12_product_18 : decode mX12_product.2.1 18 = .ok (.iconst 4, 1) := by decide +kernel
theorem dX12_product_19 : decode mX12_product.2.1 19 = .ok (.goto 17, 3) := by decide +kernel
theorem dX12_product_22 : decode mX12_product.2.1 22 = .ok (.aload_n 0, 1) := by decide +kernel
theorem dX12_product_23 : decode mX12_product.2.1 23 = .ok (.bipush 47, 2) := by decide +kernel
theorem dX12_product_25 : decode mX12_product.2.1 25 = .ok (.invokevirtual 419, 3) := by decide +kernel
theorem dX12_product_28 : decode mX12_product.2.1 28 = .ok (.ifCond .eq 7, 3) := by decide +kernel
theorem dX12_product_31 : decode mX12_product.2.1 31 = .ok (.iconst 5, 1) := by decide +kernel
theorem dX12_product_32 : decode mX12_product.2.1 32 = .ok (.goto 4, 3) := by decide +kernel
theorem dX12_product_35 : decode mX12_product.2.1 35 = .ok (.iconst (-1), 1) := by decide +kernel
theorem dX12_product_36 : decode mX12_product.2.1 36 = .ok (.istore_n 1, 1) := by decide +kernel
theorem dX12_product_37 : decode mX12_product.2.1 37 = .ok (.iload_n 1, 1) := by decide +kernel
theorem dX12_product_38 : decode mX12_product.2.1 38 = .ok (.iconst (-1), 1) := by decide +kernel
theorem dX12_product_39 : decode mX12_product.2.1 39 = .ok (.if_icmp .ne 5, 3) := by decide +kernel
theorem dX12_product_42 : decode mX12_product.2.1 42 = .ok (.iconst 1, 1) := by decide +kernel
theorem dX12_product_43 : decode mX12_product.2.1 43 = .ok (.ireturn, 1) := by decide +kernel
theorem dX12_product_44 : decode mX12_product.2.1 44 = .ok (.aload_n 0, 1) := by decide +kernel
theorem dX12_product_45 : decode mX12_product.2.1 45 = .ok (.invokevirtual 426, 3) := by decide +kernel
theorem dX12_product_48 : decode mX12_product.2.1 48 = .ok (.ifCond .ne 5, 3) := by decide +kernel
theorem dX12_product_51 : decode mX12_product.2.1 51 = .ok (.iconst 0, 1) := by decide +kernel
theorem dX12_product_52 : decode mX12_product.2.1 52 = .ok (.ireturn, 1) := by decide +kernel
theorem dX12_product_53 : decode mX12_product.2.1 53 = .ok (.aload_n 0, 1) := by decide +kernel
theorem dX12_product_54 : decode mX12_product.2.1 54 = .ok (.iload_n 1, 1) := by decide +kernel
theorem dX12_product_55 : decode mX12_product.2.1 55 = .ok (.iconst 0, 1) := by decide +kernel
theorem dX12_product_56 : decode mX12_product.2.1 56 = .ok (.invokevirtual 410, 3) := by decide +kernel
theorem dX12_product_59 : decode mX12_product.2.1 59 = .ok (.goto (-50), 3) := by decide +kernel
theorem dX12_ex_0 : decode mX12_ex.2.1 0 = .ok (.aload_n 0, 1) := by decide +kernel
theorem dX12_ex_1 : decode mX12_ex.2.1 1 = .ok (.invokevirtual 429, 3) := by decide +kernel
theorem dX12_ex_4 : decode mX12_ex.2.1 4 = .ok (.ifCond .ne 5, 3) := by decide +kernel
theorem dX12_ex_7 : decode mX12_ex.2.1 7 = .ok (.iconst 0, 1) := by decide +kernel
theorem dX12_ex_8 : decode mX12_ex.2.1 8 = .ok (.ireturn, 1) := by decide +kernel
theorem dX12_ex_9 : decode mX12_ex.2.1 9 = .ok (.aload_n 0, 1) := by decide +kernel
theorem dX12_ex_10 : decode mX12_ex.2.1 10 = .ok (.bipush 43, 2) := by decide +kernel
theorem dX12_ex_12 : decode mX12_ex.2.1 12 = .ok (.invokevirtual 419, 3) := by decide +kernel
theorem dX12_ex_15 : decode mX12_ex.2.1 15 = .ok (.ifCond .eq 7, 3) := by decide +kernel
theorem dX12_ex_18 : decode mX12_ex.2.1 18 = .ok (.iconst 2, 1) := by decide +kernel
theorem dX12_ex_19 : decode mX12_ex.2.1 19 = .ok (.goto 17, 3) := by decide +kernel
theorem dX12_ex_22 : decode mX12_ex.2.1 22 = .ok (.aload_n 0, 1) := by decide +kernel
theorem dX12_ex_23 : decode mX12_ex.2.1 23 = .ok (.bipush 45, 2) := by decide +kernel
theorem dX12_ex_25 : decode mX12_ex.2.1 25 = .ok (.invokevirtual 419, 3) := by decide +kernel
theorem dX12_ex_28 : decode mX12_ex.2.1 28 = .ok (.ifCond .eq 7, 3) := by decide +kernel
theorem dX12_ex_31 : decode mX12_ex.2.1 31 = .ok (.iconst 3, 1) := by decide +kernel
theorem dX12_ex_32 : decode mX12_ex.2.1 32 = .ok (.goto 4, 3) := by decide +kernel
theorem dX12_ex_35 : decode mX12_ex.2.1 35 = .ok (.iconst (-1), 1) := by decide +kernel
theorem dX12_ex_36 : decode mX12_ex.2.1 36 = .ok (.istore_n 1, 1) := by decide +kernel
theorem dX12_ex_37 : decode mX12_ex.2.1 37 = .ok (.iload_n 1, 1) := by decide +kernel
theorem dX12_ex_38 : decode mX12_ex.2.1 38 = .ok (.iconst (-1), 1) := by decide +kernel
theorem dX12_ex_39 : decode mX12_ex.2.1 39 = .ok (.if_icmp .ne 5, 3) := by decide +kernel
theorem dX12_ex_42 : decode mX12_ex.2.1 42 = .ok (.iconst 1, 1) := by decide +kernel
theorem dX12_ex_43 : decode mX12_ex.2.1 43 = .ok (.ireturn, 1) := by decide +kernel
theorem dX12_ex_44 : decode mX12_ex.2.1 44 = .ok (.aload_n 0, 1) := by decide +kernel
theorem dX12_ex_45 : decode mX12_ex.2.1 45 = .ok (.invokevirtual 429, 3) := by decide +kernel
theorem dX12_ex_48 : decode mX12_ex.2.1 48 = .ok (.ifCond .ne 5, 3) := by decide +kernel
theorem dX12_ex_51 : decode mX12_ex.2.1 51 = .ok (.iconst 0, 1) := by decide +kernel
theorem dX12_ex_52 : decode mX12_ex.2.1 52 = .ok (.ireturn, 1) := by decide +kernel
theorem dX12_ex_53 : decode mX12_ex.2.1 53 = .ok (.aload_n 0, 1) := by decide +kernel
theorem dX12_ex_54 : decode mX12_ex.2.1 54 = .ok (.iload_n 1, 1) := by decide +kernel
theorem dX12_ex_55 : decode mX12_ex.2.1 55 = .ok (.iconst 0, 1) := by decide +kernel
theorem dX12_ex_56 : decode mX12_ex.2.1 56 = .ok (.invokevirtual 410, 3) := by decide +kernel
theorem dX12_ex_59 : decode mX12_ex.2.1 59 = .ok (.goto (-50), 3) := by decide +kernel
theorem dX12_single_0 : decode mX12_single.2.1 0 = .ok (.aload_n 0, 1) := by decide +kernel
theorem dX12_single_1 : decode mX12_single.2.1 1 = .ok (.invokevirtual 378, 3) := by decide +kernel
theorem dX12_single_4 : decode mX12_single.2.1 4 = .ok (.ldc2_w 432, 3) := by decide +kernel
theorem dX12_single_7 : decode mX12_single.2.1 7 = .ok (.lcmp, 1) := by decide +kernel
theorem dX12_single_8 : decode mX12_single.2.1 8 = .ok (.ifCond .ne 48, 3) := by decide +kernel
theorem dX12_single_11 : decode mX12_single.2.1 11 = .ok (.aload_n 0, 1) := by decide +kernel
theorem dX12_single_12 : decode mX12_single.2.1 12 = .ok (.invokevirtual 413, 3) := by decide +kernel
theorem dX12_single_15 : decode mX12_single.2.1 15 = .ok (.ifCond .ne 5, 3) := by decide +kernel
theorem dX12_single_18 : decode mX12_single.2.1 18 = .ok (.iconst 0, 1) := by decide +kernel
theorem dX12_single_19 : decode mX12_single.2.1 19 = .ok (.ireturn, 1) := by decide +kernel
theorem dX12_single_20 : decode mX12_single.2.1 20 = .ok (.aload_n 0, 1) := by decide +kernel
theorem dX12_single_21 : decode mX12_single.2.1 21 = .ok (.aload_n 0, 1) := by decide +kernel
theorem dX12_single_22 : decode mX12_single.2.1 22 = .ok (.getfield 375, 3) := by decide +kernel
theorem dX12_single_25 : decode mX12_single.2.1 25 = .ok (.putfield 366, 3) := by decide +kernel
theorem dX12_single_28 : decode mX12_single.2.1 28 = .ok (.aload_n 0, 1) := by decide +kernel
theorem dX12_single_29 : decode mX12_single.2.1 29 = .ok (.invokevirtual 434, 3) := by decide +kernel
theorem dX12_single_32 : decode mX12_single.2.1 32 = .ok (.ifCond .ne 5, 3) := by decide +kernel
theorem dX12_single_35 : decode mX12_single.2.1 35 = .ok (.iconst 0, 1) := by decide +kernel
theorem dX12_single_36 : decode mX12_single.2.1 36 = .ok (.ireturn, 1) := by decide +kernel
theorem dX12_single_37 : decode mX12_single.2.1 37 = .ok (.aload_n 0, 1) := by decide +kernel
theorem dX12_single_38 : decode mX12_single.2.1 38 = .ok (.dup, 1) := by decide +kernel
theorem dX12_single_39 : decode mX12_single.2.1 39 = .ok (.getfield 404, 3) := by decide +kernel
theorem dX12_single_42 : decode mX12_single.2.1 42 = .ok (.iconst 1, 1) := by decide +kernel
theorem dX12_single_43 : decode mX12_single.2.1 43 = .ok (.isub, 1) := by decide +kernel
theorem dX12_single_44 : decode mX12_single.2.1 44 = .ok (.putfield 404, 3) := by decide +kernel
theorem dX12_single_47 : decode mX12_single.2.1 47 = .ok (.aload_n 0, 1) := by decide +kernel
theorem dX12_single_48 : decode mX12_single.2.1 48 = .ok (.bipush 11, 2) := by decide +kernel
theorem dX12_single_50 : decode mX12_single.2.1 50 = .ok (.iconst 0, 1) := by decide +kernel
theorem dX12_single_51 : decode mX12_single.2.1 51 = .ok (.invokevirtual 410, 3) := by decide +kernel
theorem dX12_single_54 : decode mX12_single.2.1 54 = .ok (.iconst 1, 1) := by decide +kernel
theorem dX12_single_55 : decode mX12_single.2.1 55 = .ok (.ireturn, 1) := by decide +kernel
theorem dX12_single_56 : decode mX12_single.2.1 56 = .ok (.aload_n 0, 1) := by decide +kernel
theorem dX12_single_57 : decode mX12_single.2.1 57 = .ok (.getfield 366, 3) := by decide +kernel
theorem dX12_single_60 : decode mX12_single.2.1 60 = .ok (.aload_n 0, 1) := by decide +kernel
theorem dX12_single_61 : decode mX12_single.2.1 61 = .ok (.getfield 369, 3) := by decide +kernel
theorem dX12_single_64 : decode mX12_single.2.1 64 = .ok (.if_icmp .ge 66, 3) := by decide +kernel
theorem dX12_single_67 : decode mX12_single.2.1 67 = .ok (.aload_n 0, 1) := by decide +kernel
theorem dX12_single_68 : decode mX12_single.2.1 68 = .ok (.getfield 149, 3) := by decide +kernel
theorem dX12_single_71 : decode mX12_single.2.1 71 = .ok (.aload_n 0, 1) := by decide +kernel
theorem dX12_single_72 : decode mX12_single.2.1 72 = .ok (.getfield 366, 3) := by decide +kernel
theorem dX12_single_75 : decode mX12_single.2.1 75 = .ok (.baload, 1) := by decide +kernel
theorem dX12_single_76 : decode mX12_single.2.1 76 = .ok (.bipush 91, 2) := by decide +kernel
theorem dX12_single_78 : decode mX12_single.2.1 78 = .ok (.if_icmp .ne 52, 3) := by decide +kernel
theorem dX12_single_81 : decode mX12_single.2.1 81 = .ok (.aload_n 0, 1) := by decide +kernel
theorem dX12_single_82 : decode mX12_single.2.1 82 = .ok (.invokevirtual 413, 3) := by decide +kernel
theorem dX12_single_85 : decode mX12_single.2.1 85 = .ok (.ifCond .ne 5, 3) := by decide +kernel
theorem dX12_single_88 : decode mX12_single.2.1 88 = .ok (.iconst 0, 1) := by decide +kernel
theorem dX12_single_89 : decode mX12_single.2.1 89 = .ok (.ireturn, 1) := by decide +kernel
theorem dX12_single_90 : decode mX12_single.2.1 90 = .ok (.aload_n 0, 1) := by decide +kernel
theorem dX12_single_91 : decode mX12_single.2.1 91 = .ok (.dup, 1) := by decide +kernel
theorem dX12_single_92 : decode mX12_single.2.1 92 = .ok (.getfield 366, 3) := by decide +kernel
theorem dX12_single_95 : decode mX12_single.2.1 95 = .ok (.iconst 1, 1) := by decide +kernel
theorem dX12_single_96 : decode mX12_single.2.1 96 = .ok (.iadd, 1) := by decide +kernel
theorem dX12_single_97 : decode mX12_single.2.1 97 = .ok (.putfield 366, 3) := by decide +kernel
theorem dX12_single_100 : decode mX12_single.2.1 100 = .ok (.aload_n 0, 1) := by decide +kernel
theorem dX12_single_101 : decode mX12_single.2.1 101 = .ok (.invokevirtual 437, 3) := by decide +kernel
theorem dX12_single_104 : decode mX12_single.2.1 104 = .ok (.ifCond .eq 12, 3) := by decide +kernel
theorem dX12_single_107 : decode mX12_single.2.1 107 = .ok (.aload_n 0, 1) := by decide +kernel
theorem dX12_single_108 : decode mX12_single.2.1 108 = .ok (.bipush 93, 2) := by decide +kernel
theorem dX12_single_110 : decode mX12_single.2.1 110 = .ok (.invokevirtual 419, 3) := by decide +kernel
theorem dX12_single_113 : decode mX12_single.2.1 113 = .ok (.ifCond .ne 5, 3) := by decide +kernel
theorem dX12_single_116 : decode mX12_single.2.1 116 = .ok (.iconst 0, 1) := by decide +kernel
theorem dX12_single_117 : decode mX12_single.2.1 117 = .ok (.ireturn, 1) := by decide +kernel
theorem dX12_single_118 : decode mX12_single.2.1 118 = .ok (.aload_n 0, 1) := by decide +kernel
theorem dX12_single_119 : decode mX12_single.2.1 119 = .ok (.dup, 1) := by decide +kernel
theorem dX12_single_120 : decode mX12_single.2.1 120 = .ok (.getfield 404, 3) := by decide +kernel
theorem dX12_single_123 : decode mX12_single.2.1 123 = .ok (.iconst 1, 1) := by decide +kernel
theorem dX12_single_124 : decode mX12_single.2.1 124 = .ok (.isub, 1) := by decide +kernel
theorem dX12_single_125 : decode mX12_single.2.1 125 = .ok (.putfield 404, 3) := by decide +kernel
theorem dX12_single_128 : decode mX12_single.2.1 128 = .ok (.iconst 1, 1) := by decide +kernel
theorem dX12_single_129 : decode mX12_single.2.1 129 = .ok (.ireturn, 1) := by decide +kernel
theorem dX12_single_130 : decode mX12_single.2.1 130 = .ok (.aload_n 0, 1) := by decide +kernel
theorem dX12_single_131 : decode mX12_single.2.1 131 = .ok (.invokevirtual 416, 3) := by decide +kernel
theorem dX12_single_134 : decode mX12_single.2.1 134 = .ok (.ifCond .ne 5, 3) := by decide +kernel
theorem dX12_single_137 : decode mX12_single.2.1 137 = .ok (.iconst 0, 1) := by decide +kernel
theorem dX12_single_138 : decode mX12_single.2.1 138 = .ok (.ireturn, 1) := by decide +kernel
theorem dX12_single_139 : decode mX12_single.2.1 139 = .ok (.aload_n 0, 1) := by decide +kernel
theorem dX12_single_140 : decode mX12_single.2.1 140 = .ok (.bipush 60, 2) := by decide +kernel
theorem dX12_single_142 : decode mX12_single.2.1 142 = .ok (.invokevirtual 419, 3) := by decide +kernel
theorem dX12_single_145 : decode mX12_single.2.1 145 = .ok (.ifCond .eq 8, 3) := by decide +kernel
theorem dX12_single_148 : decode mX12_single.2.1 148 = .ok (.bipush 6, 2) := by decide +kernel
theorem dX12_single_150 : decode mX12_single.2.1 150 = .ok (.goto 32, 3) := by decide +kernel
theorem dX12_single_153 : decode mX12_single.2.1 153 = .ok (.aload_n 0, 1) := by decide +kernel
theorem dX12_single_154 : decode mX12_single.2.1 154 = .ok (.bipush 62, 2) := by decide +kernel
theorem dX12_single_156 : decode mX12_single.2.1 156 = .ok (.invokevirtual 419, 3) := by decide +kernel
theorem dX12_single_159 : decode mX12_single.2.1 159 = .ok (.ifCond .eq 8, 3) := by decide +kernel
theorem dX12_single_162 : decode mX12_single.2.1 162 = .ok (.bipush 7, 2) := by decide +kernel
theorem dX12_single_164 : decode mX12_single.2.1 164 = .ok (.goto 18, 3) := by decide +kernel
theorem dX12_single_167 : decode mX12_single.2.1 167 = .ok (.aload_n 0, 1) := by decide +kernel
theorem dX12_single_168 : decode mX12_single.2.1 168 = .ok (.bipush 61, 2) := by decide +kernel
theorem dX12_single_170 : decode mX12_single.2.1 170 = .ok (.invokevirtual 419, 3) := by decide +kernel
theorem dX12_single_173 : decode mX12_single.2.1 173 = .ok (.ifCond .eq 8, 3) := by decide +kernel
theorem dX12_single_176 : decode mX12_single.2.1 176 = .ok (.bipush 8, 2) := by decide +kernel
theorem dX12_single_178 : decode mX12_single.2.1 178 = .ok (.goto 4, 3) := by decide +kernel
theorem dX12_single_181 : decode mX12_single.2.1 181 = .ok (.iconst (-1), 1) := by decide +kernel
theorem dX12_single_182 : decode mX12_single.2.1 182 = .ok (.istore_n 1, 1) := by decide +kernel
theorem dX12_single_183 : decode mX12_single.2.1 183 = .ok (.iload_n 1, 1) := by decide +kernel
theorem dX12_single_184 : decode mX12_single.2.1 184 = .ok (.iconst (-1), 1) := by decide +kernel
theorem dX12_single_185 : decode mX12_single.2.1 185 = .ok (.if_icmp .eq 10, 3) := by decide +kernel
theorem dX12_single_188 : decode mX12_single.2.1 188 = .ok (.aload_n 0, 1) := by decide +kernel
theorem dX12_single_189 : decode mX12_single.2.1 189 = .ok (.invokevirtual 416, 3) := by decide +kernel
theorem dX12_single_192 : decode mX12_single.2.1 192 = .ok (.ifCond .ne 5, 3) := by decide +kernel
theorem dX12_single_195 : decode mX12_single.2.1 195 = .ok (.iconst 0, 1) := by decide +kernel
theorem dX12_single_196 : decode mX12_single.2.1 196 = .ok (.ireturn, 1) := by decide +kernel
theorem dX12_single_197 : decode mX12_single.2.1 197 = .ok (.aload_n 0, 1) := by decide +kernel
theorem dX12_single_198 : decode mX12_single.2.1 198 = .ok (.iload_n 1, 1) := by decide +kernel
theorem dX12_single_199 : decode mX12_single.2.1 199 = .ok (.iconst 0, 1) := by decide +kernel
theorem dX12_single_200 : decode mX12_single.2.1 200 = .ok (.invokevirtual 410, 3) := by decide +kernel
theorem dX12_single_203 : decode mX12_single.2.1 203 = .ok (.iconst 1, 1) := by decide +kernel
theorem dX12_single_204 : decode mX12_single.2.1 204 = .ok (.ireturn, 1) := by decide +kernel
theorem dX12_all_0 : decode mX12_all.2.1 0 = .ok (.aload_n 0, 1) := by decide +kernel
theorem dX12_all_1 : decode mX12_all.2.1 1 = .ok (.invokevirtual 434, 3) := by decide +kernel
theorem dX12_all_4 : decode mX12_all.2.1 4 = .ok (.ifCond .ne 5, 3) := by decide +kernel
theorem dX12_all_7 : decode mX12_all.2.1 7 = .ok (.iconst 0, 1) := by decide +kernel
theorem dX12_all_8 : decode mX12_all.2.1 8 = .ok (.ireturn, 1) := by decide +kernel
theorem dX12_all_9 : decode mX12_all.2.1 9 = .ok (.aload_n 0, 1) := by decide +kernel
theorem dX12_all_10 : decode mX12_all.2.1 10 = .ok (.ldc2_w 440, 3) := by decide +kernel
theorem dX12_all_13 : decode mX12_all.2.1 13 = .ok (.invokevirtual 442, 3) := by decide +kernel
theorem dX12_all_16 : decode mX12_all.2.1 16 = .ok (.ifCond .eq 22, 3) := by decide +kernel
theorem dX12_all_19 : decode mX12_all.2.1 19 = .ok (.aload_n 0, 1) := by decide +kernel
theorem dX12_all_20 : decode mX12_all.2.1 20 = .ok (.invokevirtual 434, 3) := by decide +kernel
theorem dX12_all_23 : decode mX12_all.2.1 23 = .ok (.ifCond .ne 5, 3) := by decide +kernel
theorem dX12_all_26 : decode mX12_all.2.1 26 = .ok (.iconst 0, 1) := by decide +kernel
theorem dX12_all_27 : decode mX12_all.2.1 27 = .ok (.ireturn, 1) := by decide +kernel
theorem dX12_all_28 : decode mX12_all.2.1 28 = .ok (.aload_n 0, 1) := by decide +kernel
theorem dX12_all_29 : decode mX12_all.2.1 29 = .ok (.bipush 10, 2) := by decide +kernel
theorem dX12_all_31 : decode mX12_all.2.1 31 = .ok (.iconst 0, 1) := by decide +kernel
theorem dX12_all_32 : decode mX12_all.2.1 32 = .ok (.invokevirtual 410, 3) := by decide +kernel
theorem dX12_all_35 : decode mX12_all.2.1 35 = .ok (.goto (-26), 3) := by decide +kernel
theorem dX12_all_38 : decode mX12_all.2.1 38 = .ok (.iconst 1, 1) := by decide +kernel
theorem dX12_all_39 : decode mX12_all.2.1 39 = .ok (.ireturn, 1) := by decide +kernel
theorem dX12_any_0 : decode mX12_any.2.1 0 = .ok (.aload_n 0, 1) := by decide +kernel
theorem dX12_any_1 : decode mX12_any.2.1 1 = .ok (.invokevirtual 446, 3) := by decide +kernel
theorem dX12_any_4 : decode mX12_any.2.1 4 = .ok (.ifCond .ne 5, 3) := by decide +kernel
theorem dX12_any_7 : decode mX12_any.2.1 7 = .ok (.iconst 0, 1) := by decide +kernel
theorem dX12_any_8 : decode mX12_any.2.1 8 = .ok (.ireturn, 1) := by decide +kernel
theorem dX12_any_9 : decode mX12_any.2.1 9 = .ok (.aload_n 0, 1) := by decide +kernel
theorem dX12_any_10 : decode mX12_any.2.1 10 = .ok (.ldc2_w 449, 3) := by decide +kernel
theorem dX12_any_13 : decode mX12_any.2.1 13 = .ok (.invokevirtual 442, 3) := by decide +kernel
theorem dX12_any_16 : decode mX12_any.2.1 16 = .ok (.ifCond .eq 22, 3) := by decide +kernel
theorem dX12_any_19 : decode mX12_any.2.1 19 = .ok (.aload_n 0, 1) := by decide +kernel
theorem dX12_any_20 : decode mX12_any.2.1 20 = .ok (.invokevirtual 446, 3) := by decide +kernel
theorem dX12_any_23 : decode mX12_any.2.1 23 = .ok (.ifCond .ne 5, 3) := by decide +kernel
theorem dX12_any_26 : decode mX12_any.2.1 26 = .ok (.iconst 0, 1) := by decide +kernel
theorem dX12_any_27 : decode mX12_any.2.1 27 = .ok (.ireturn, 1) := by decide +kernel
theorem dX12_any_28 : decode mX12_any.2.1 28 = .ok (.aload_n 0, 1) := by decide +kernel
theorem dX12_any_29 : decode mX12_any.2.1 29 = .ok (.bipush 9, 2) := by decide +kernel
theorem dX12_any_31 : decode mX12_any.2.1 31 = .ok (.iconst 0, 1) := by decide +kernel
theorem dX12_any_32 : decode mX12_any.2.1 32 = .ok (.invokevirtual 410, 3) := by decide +kernel
theorem dX12_any_35 : decode mX12_any.2.1 35 = .ok (.goto (-26), 3) := by decide +kernel
theorem dX12_any_38 : decode mX12_any.2.1 38 = .ok (.iconst 1, 1) := by decide +kernel
theorem dX12_any_39 : decode mX12_any.2.1 39 = .ok (.ireturn, 1) := by decide +kernel
theorem dX12_fault_0 : decode mX12_fault.2.1 0 = .ok (.aload_n 0, 1) := by decide +kernel
theorem dX12_fault_1 : decode mX12_fault.2.1 1 = .ok (.getfield 115, 3) := by decide +kernel
theorem dX12_fault_4 : decode mX12_fault.2.1 4 = .ok (.ireturn, 1) := by decide +kernel
theorem dX12_bit_0 : decode mX12_bit.2.1 0 = .ok (.iload_n 0, 1) := by decide +kernel
theorem dX12_bit_1 : decode mX12_bit.2.1 1 = .ok (.ifCond .eq 7, 3) := by decide +kernel
theorem dX12_bit_4 : decode mX12_bit.2.1 4 = .ok (.lconst 1, 1) := by decide +kernel
theorem dX12_bit_5 : decode mX12_bit.2.1 5 = .ok (.goto 4, 3) := by decide +kernel
theorem dX12_bit_8 : decode mX12_bit.2.1 8 = .ok (.lconst 0, 1) := by decide +kernel
theorem dX12_bit_9 : decode mX12_bit.2.1 9 = .ok (.lreturn, 1) := by decide +kernel
theorem dX12_manyOf_0 : decode mX12_manyOf.2.1 0 = .ok (.iconst 0, 1) := by decide +kernel
theorem dX12_manyOf_1 : decode mX12_manyOf.2.1 1 = .ok (.istore_n 3, 1) := by decide +kernel
theorem dX12_manyOf_2 : decode mX12_manyOf.2.1 2 = .ok (.iconst 0, 1) := by decide +kernel
theorem dX12_manyOf_3 : decode mX12_manyOf.2.1 3 = .ok (.istore 4, 2) := by decide +kernel
theorem dX12_manyOf_5 : decode mX12_manyOf.2.1 5 = .ok (.iload 4, 2) := by decide +kernel
theorem dX12_manyOf_7 : decode mX12_manyOf.2.1 7 = .ok (.aload_n 0, 1) := by decide +kernel
theorem dX12_manyOf_8 : decode mX12_manyOf.2.1 8 = .ok (.getfield 219, 3) := by decide +kernel
theorem dX12_manyOf_11 : decode mX12_manyOf.2.1 11 = .ok (.if_icmp .ge 33, 3) := by decide +kernel
theorem dX12_manyOf_14 : decode mX12_manyOf.2.1 14 = .ok (.iload_n 3, 1) := by decide +kernel
theorem dX12_manyOf_15 : decode mX12_manyOf.2.1 15 = .ok (.aload_n 0, 1) := by decide +kernel
theorem dX12_manyOf_16 : decode mX12_manyOf.2.1 16 = .ok (.getfield 7, 3) := by decide +kernel
theorem dX12_manyOf_19 : decode mX12_manyOf.2.1 19 = .ok (.iload_n 1, 1) := by decide +kernel
theorem dX12_manyOf_20 : decode mX12_manyOf.2.1 20 = .ok (.iload 4, 2) := by decide +kernel
theorem dX12_manyOf_22 : decode mX12_manyOf.2.1 22 = .ok (.iadd, 1) := by decide +kernel
theorem dX12_manyOf_23 : decode mX12_manyOf.2.1 23 = .ok (.iaload, 1) := by decide +kernel
theorem dX12_manyOf_24 : decode mX12_manyOf.2.1 24 = .ok (.iload_n 2, 1) := by decide +kernel
theorem dX12_manyOf_25 : decode mX12_manyOf.2.1 25 = .ok (.if_icmp .ne 7, 3) := by decide +kernel
theorem dX12_manyOf_28 : decode mX12_manyOf.2.1 28 = .ok (.iconst 1, 1) := by decide +kernel
theorem dX12_manyOf_29 : decode mX12_manyOf.2.1 29 = .ok (.goto 4, 3) := by decide +kernel
theorem dX12_manyOf_32 : decode mX12_manyOf.2.1 32 = .ok (.iconst 0, 1) := by decide +kernel
theorem dX12_manyOf_33 : decode mX12_manyOf.2.1 33 = .ok (.invokestatic 231, 3) := by decide +kernel
theorem dX12_manyOf_36 : decode mX12_manyOf.2.1 36 = .ok (.iadd, 1) := by decide +kernel
theorem dX12_manyOf_37 : decode mX12_manyOf.2.1 37 = .ok (.istore_n 3, 1) := by decide +kernel
theorem dX12_manyOf_38 : decode mX12_manyOf.2.1 38 = .ok (.iinc 4 1, 3) := by decide +kernel
theorem dX12_manyOf_41 : decode mX12_manyOf.2.1 41 = .ok (.goto (-36), 3) := by decide +kernel
theorem dX12_manyOf_44 : decode mX12_manyOf.2.1 44 = .ok (.iload_n 3, 1) := by decide +kernel
theorem dX12_manyOf_45 : decode mX12_manyOf.2.1 45 = .ok (.ireturn, 1) := by decide +kernel
theorem dX12_count_0 : decode mX12_count.2.1 0 = .ok (.iconst 0, 1) := by decide +kernel
theorem dX12_count_1 : decode mX12_count.2.1 1 = .ok (.istore_n 2, 1) := by decide +kernel
theorem dX12_count_2 : decode mX12_count.2.1 2 = .ok (.iload_n 1, 1) := by decide +kernel
theorem dX12_count_3 : decode mX12_count.2.1 3 = .ok (.tableswitch 300 0 16 #[81, 90, 95, 100, 105, 110, 119, 128, 133, 138, 167, 172, 177, 182, 205, 210, 253], 81) := by decide +kernel
theorem dX12_count_84 : decode mX12_count.2.1 84 = .ok (.aload_n 0, 1) := by decide +kernel
theorem dX12_count_85 : decode mX12_count.2.1 85 = .ok (.getfield 7, 3) := by decide +kernel
theorem dX12_count_88 : decode mX12_count.2.1 88 = .ok (.sipush 1624, 3) := by decide +kernel
theorem dX12_count_91 : decode mX12_count.2.1 91 = .ok (.iaload, 1) := by decide +kernel
theorem dX12_count_92 : decode mX12_count.2.1 92 = .ok (.ireturn, 1) := by decide +kernel
theorem dX12_count_93 : decode mX12_count.2.1 93 = .ok (.aload_n 0, 1) := by decide +kernel
theorem dX12_count_94 : decode mX12_count.2.1 94 = .ok (.getfield 175, 3) := by decide +kernel
theorem dX12_count_97 : decode mX12_count.2.1 97 = .ok (.ireturn, 1) := by decide +kernel
theorem dX12_count_98 : decode mX12_count.2.1 98 = .ok (.aload_n 0, 1) := by decide +kernel
theorem dX12_count_99 : decode mX12_count.2.1 99 = .ok (.getfield 210, 3) := by decide +kernel
theorem dX12_count_102 : decode mX12_count.2.1 102 = .ok (.ireturn, 1) := by decide +kernel
theorem dX12_count_103 : decode mX12_count.2.1 103 = .ok (.aload_n 0, 1) := by decide +kernel
theorem dX12_count_104 : decode mX12_count.2.1 104 = .ok (.getfield 213, 3) := by decide +kernel
theorem dX12_count_107 : decode mX12_count.2.1 107 = .ok (.ireturn, 1) := by decide +kernel
theorem dX12_count_108 : decode mX12_count.2.1 108 = .ok (.aload_n 0, 1) := by decide +kernel
theorem dX12_count_109 : decode mX12_count.2.1 109 = .ok (.getfield 219, 3) := by decide +kernel
theorem dX12_count_112 : decode mX12_count.2.1 112 = .ok (.ireturn, 1) := by decide +kernel
theorem dX12_count_113 : decode mX12_count.2.1 113 = .ok (.aload_n 0, 1) := by decide +kernel
theorem dX12_count_114 : decode mX12_count.2.1 114 = .ok (.sipush 1504, 3) := by decide +kernel
theorem dX12_count_117 : decode mX12_count.2.1 117 = .ok (.iconst 0, 1) := by decide +kernel
theorem dX12_count_118 : decode mX12_count.2.1 118 = .ok (.invokevirtual 504, 3) := by decide +kernel
theorem dX12_count_121 : decode mX12_count.2.1 121 = .ok (.ireturn, 1) := by decide +kernel
theorem dX12_count_122 : decode mX12_count.2.1 122 = .ok (.aload_n 0, 1) := by decide +kernel
theorem dX12_count_123 : decode mX12_count.2.1 123 = .ok (.sipush 1504, 3) := by decide +kernel
theorem dX12_count_126 : decode mX12_count.2.1 126 = .ok (.iconst 2, 1) := by decide +kernel
theorem dX12_count_127 : decode mX12_count.2.1 127 = .ok (.invokevirtual 504, 3) := by decide +kernel
theorem dX12_count_130 : decode mX12_count.2.1 130 = .ok (.ireturn, 1) := by decide +kernel
theorem dX12_count_131 : decode mX12_count.2.1 131 = .ok (.aload_n 0, 1) := by decide +kernel
theorem dX12_count_132 : decode mX12_count.2.1 132 = .ok (.getfield 222, 3) := by decide +kernel
theorem dX12_count_135 : decode mX12_count.2.1 135 = .ok (.ireturn, 1) := by decide +kernel
theorem dX12_count_136 : decode mX12_count.2.1 136 = .ok (.aload_n 0, 1) := by decide +kernel
theorem dX12_count_137 : decode mX12_count.2.1 137 = .ok (.getfield 225, 3) := by decide +kernel
theorem dX12_count_140 : decode mX12_count.2.1 140 = .ok (.ireturn, 1) := by decide +kernel
theorem dX12_count_141 : decode mX12_count.2.1 141 = .ok (.iconst 0, 1) := by decide +kernel
theorem dX12_count_142 : decode mX12_count.2.1 142 = .ok (.istore_n 3, 1) := by decide +kernel
theorem dX12_count_143 : decode mX12_count.2.1 143 = .ok (.iload_n 3, 1) := by decide +kernel
theorem dX12_count_144 : decode mX12_count.2.1 144 = .ok (.bipush 64, 2) := by decide +kernel
theorem dX12_count_146 : decode mX12_count.2.1 146 = .ok (.if_icmp .ge 22, 3) := by decide +kernel
theorem dX12_count_149 : decode mX12_count.2.1 149 = .ok (.iload_n 2, 1) := by decide +kernel
theorem dX12_count_150 : decode mX12_count.2.1 150 = .ok (.aload_n 0, 1) := by decide +kernel
theorem dX12_count_151 : decode mX12_count.2.1 151 = .ok (.getfield 7, 3) := by decide +kernel
theorem dX12_count_154 : decode mX12_count.2.1 154 = .ok (.sipush 192, 3) := by decide +kernel
theorem dX12_count_157 : decode mX12_count.2.1 157 = .ok (.iload_n 3, 1) := by decide +kernel
theorem dX12_count_158 : decode mX12_count.2.1 158 = .ok (.iadd, 1) := by decide +kernel
theorem dX12_count_159 : decode mX12_count.2.1 159 = .ok (.iaload, 1) := by decide +kernel
theorem dX12_count_160 : decode mX12_count.2.1 160 = .ok (.iadd, 1) := by decide +kernel
theorem dX12_count_161 : decode mX12_count.2.1 161 = .ok (.istore_n 2, 1) := by decide +kernel
theorem dX12_count_162 : decode mX12_count.2.1 162 = .ok (.iinc 3 1, 3) := by decide +kernel
theorem dX12_count_165 : decode mX12_count.2.1 165 = .ok (.goto (-22), 3) := by decide +kernel
theorem dX12_count_168 : decode mX12_count.2.1 168 = .ok (.iload_n 2, 1) := by decide +kernel
theorem dX12_count_169 : decode mX12_count.2.1 169 = .ok (.ireturn, 1) := by decide +kernel
theorem dX12_count_170 : decode mX12_count.2.1 170 = .ok (.aload_n 0, 1) := by decide +kernel
theorem dX12_count_171 : decode mX12_count.2.1 171 = .ok (.invokevirtual 334, 3) := by decide +kernel
theorem dX12_count_174 : decode mX12_count.2.1 174 = .ok (.ireturn, 1) := by decide +kernel
theorem dX12_count_175 : decode mX12_count.2.1 175 = .ok (.aload_n 0, 1) := by decide +kernel
theorem dX12_count_176 : decode mX12_count.2.1 176 = .ok (.getfield 353, 3) := by decide +kernel
theorem dX12_count_179 : decode mX12_count.2.1 179 = .ok (.ireturn, 1) := by decide +kernel
theorem dX12_count_180 : decode mX12_count.2.1 180 = .ok (.aload_n 0, 1) := by decide +kernel
theorem dX12_count_181 : decode mX12_count.2.1 181 = .ok (.getfield 461, 3) := by decide +kernel
theorem dX12_count_184 : decode mX12_count.2.1 184 = .ok (.ireturn, 1) := by decide +kernel
theorem dX12_count_185 : decode mX12_count.2.1 185 = .ok (.aload_n 0, 1) := by decide +kernel
theorem dX12_count_186 : decode mX12_count.2.1 186 = .ok (.getfield 461, 3) := by decide +kernel
theorem dX12_count_189 : decode mX12_count.2.1 189 = .ok (.ifCond .ne 7, 3) := by decide +kernel
theorem dX12_count_192 : decode mX12_count.2.1 192 = .ok (.iconst 0, 1) := by decide +kernel
theorem dX12_count_193 : decode mX12_count.2.1 193 = .ok (.goto 14, 3) := by decide +kernel
theorem dX12_count_196 : decode mX12_count.2.1 196 = .ok (.aload_n 0, 1) := by decide +kernel
theorem dX12_count_197 : decode mX12_count.2.1 197 = .ok (.getfield 118, 3) := by decide +kernel
theorem dX12_count_200 : decode mX12_count.2.1 200 = .ok (.aload_n 0, 1) := by decide +kernel
theorem dX12_count_201 : decode mX12_count.2.1 201 = .ok (.getfield 461, 3) := by decide +kernel
theorem dX12_count_204 : decode mX12_count.2.1 204 = .ok (.iconst 1, 1) := by decide +kernel
theorem dX12_count_205 : decode mX12_count.2.1 205 = .ok (.isub, 1) := by decide +kernel
theorem dX12_count_206 : decode mX12_count.2.1 206 = .ok (.iaload, 1) := by decide +kernel
theorem dX12_count_207 : decode mX12_count.2.1 207 = .ok (.ireturn, 1) := by decide +kernel
theorem dX12_count_208 : decode mX12_count.2.1 208 = .ok (.aload_n 0, 1) := by decide +kernel
theorem dX12_count_209 : decode mX12_count.2.1 209 = .ok (.getfield 360, 3) := by decide +kernel
theorem dX12_count_212 : decode mX12_count.2.1 212 = .ok (.ireturn, 1) := by decide +kernel
theorem dX12_count_213 : decode mX12_count.2.1 213 = .ok (.iconst 0, 1) := by decide +kernel
theorem dX12_count_214 : decode mX12_count.2.1 214 = .ok (.istore_n 3, 1) := by decide +kernel
theorem dX12_count_215 : decode mX12_count.2.1 215 = .ok (.iload_n 3, 1) := by decide +kernel
theorem dX12_count_216 : decode mX12_count.2.1 216 = .ok (.aload_n 0, 1) := by decide +kernel
theorem dX12_count_217 : decode mX12_count.2.1 217 = .ok (.getfield 213, 3) := by decide +kernel
theorem dX12_count_220 : decode mX12_count.2.1 220 = .ok (.if_icmp .ge 34, 3) := by decide +kernel
theorem dX12_count_223 : decode mX12_count.2.1 223 = .ok (.iload_n 2, 1) := by decide +kernel
theorem dX12_count_224 : decode mX12_count.2.1 224 = .ok (.aload_n 0, 1) := by decide +kernel
theorem dX12_count_225 : decode mX12_count.2.1 225 = .ok (.getfield 7, 3) := by decide +kernel
theorem dX12_count_228 : decode mX12_count.2.1 228 = .ok (.sipush 976, 3) := by decide +kernel
theorem dX12_count_231 : decode mX12_count.2.1 231 = .ok (.iload_n 3, 1) := by decide +kernel
theorem dX12_count_232 : decode mX12_count.2.1 232 = .ok (.iadd, 1) := by decide +kernel
theorem dX12_count_233 : decode mX12_count.2.1 233 = .ok (.iaload, 1) := by decide +kernel
theorem dX12_count_234 : decode mX12_count.2.1 234 = .ok (.iconst 4, 1) := by decide +kernel
theorem dX12_count_235 : decode mX12_count.2.1 235 = .ok (.if_icmp .ne 7, 3) := by decide +kernel
theorem dX12_count_238 : decode mX12_count.2.1 238 = .ok (.iconst 1, 1) := by decide +kernel
theorem dX12_count_239 : decode mX12_count.2.1 239 = .ok (.goto 4, 3) := by decide +kernel
theorem dX12_count_242 : decode mX12_count.2.1 242 = .ok (.iconst 0, 1) := by decide +kernel
theorem dX12_count_243 : decode mX12_count.2.1 243 = .ok (.invokestatic 231, 3) := by decide +kernel
theorem dX12_count_246 : decode mX12_count.2.1 246 = .ok (.iadd, 1) := by decide +kernel
theorem dX12_count_247 : decode mX12_count.2.1 247 = .ok (.istore_n 2, 1) := by decide +kernel
theorem dX12_count_248 : decode mX12_count.2.1 248 = .ok (.iinc 3 1, 3) := by decide +kernel
theorem dX12_count_251 : decode mX12_count.2.1 251 = .ok (.goto (-36), 3) := by decide +kernel
theorem dX12_count_254 : decode mX12_count.2.1 254 = .ok (.iload_n 2, 1) := by decide +kernel
theorem dX12_count_255 : decode mX12_count.2.1 255 = .ok (.ireturn, 1) := by decide +kernel
theorem dX12_count_256 : decode mX12_count.2.1 256 = .ok (.iconst 0, 1) := by decide +kernel
theorem dX12_count_257 : decode mX12_count.2.1 257 = .ok (.istore_n 3, 1) := by decide +kernel
theorem dX12_count_258 : decode mX12_count.2.1 258 = .ok (.iload_n 3, 1) := by decide +kernel
theorem dX12_count_259 : decode mX12_count.2.1 259 = .ok (.bipush 64, 2) := by decide +kernel
theorem dX12_count_261 : decode mX12_count.2.1 261 = .ok (.if_icmp .ge 40, 3) := by decide +kernel
theorem dX12_count_264 : decode mX12_count.2.1 264 = .ok (.iload_n 2, 1) := by decide +kernel
theorem dX12_count_265 : decode mX12_count.2.1 265 = .ok (.aload_n 0, 1) := by decide +kernel
theorem dX12_count_266 : decode mX12_count.2.1 266 = .ok (.getfield 7, 3) := by decide +kernel
theorem dX12_count_269 : decode mX12_count.2.1 269 = .ok (.sipush 192, 3) := by decide +kernel
theorem dX12_count_272 : decode mX12_count.2.1 272 = .ok (.iload_n 3, 1) := by decide +kernel
theorem dX12_count_273 : decode mX12_count.2.1 273 = .ok (.iadd, 1) := by decide +kernel
theorem dX12_count_274 : decode mX12_count.2.1 274 = .ok (.iaload, 1) := by decide +kernel
theorem dX12_count_275 : decode mX12_count.2.1 275 = .ok (.iconst 1, 1) := by decide +kernel
theorem dX12_count_276 : decode mX12_count.2.1 276 = .ok (.if_icmp .ne 16, 3) := by decide +kernel
theorem dX12_count_279 : decode mX12_count.2.1 279 = .ok (.aload_n 0, 1) := by decide +kernel
theorem dX12_count_280 : decode mX12_count.2.1 280 = .ok (.getfield 7, 3) := by decide +kernel
theorem dX12_count_283 : decode mX12_count.2.1 283 = .ok (.sipush 448, 3) := by decide +kernel
theorem dX12_count_286 : decode mX12_count.2.1 286 = .ok (.iload_n 3, 1) := by decide +kernel
theorem dX12_count_287 : decode mX12_count.2.1 287 = .ok (.iadd, 1) := by decide +kernel
theorem dX12_count_288 : decode mX12_count.2.1 288 = .ok (.iaload, 1) := by decide +kernel
theorem dX12_count_289 : decode mX12_count.2.1 289 = .ok (.goto 4, 3) := by decide +kernel
theorem dX12_count_292 : decode mX12_count.2.1 292 = .ok (.iconst 0, 1) := by decide +kernel
theorem dX12_count_293 : decode mX12_count.2.1 293 = .ok (.iadd, 1) := by decide +kernel
theorem dX12_count_294 : decode mX12_count.2.1 294 = .ok (.istore_n 2, 1) := by decide +kernel
theorem dX12_count_295 : decode mX12_count.2.1 295 = .ok (.iinc 3 1, 3) := by decide +kernel
theorem dX12_count_298 : decode mX12_count.2.1 298 = .ok (.goto (-40), 3) := by decide +kernel
theorem dX12_count_301 : decode mX12_count.2.1 301 = .ok (.iload_n 2, 1) := by decide +kernel
theorem dX12_count_302 : decode mX12_count.2.1 302 = .ok (.ireturn, 1) := by decide +kernel
theorem dX12_count_303 : decode mX12_count.2.1 303 = .ok (.iconst (-1), 1) := by decide +kernel
theorem dX12_count_304 : decode mX12_count.2.1 304 = .ok (.ireturn, 1) := by decide +kernel
theorem dX12_far_0 : decode mX12_far.2.1 0 = .ok (.iload_n 0, 1) := by decide +kernel
theorem dX12_far_1 : decode mX12_far.2.1 1 = .ok (.bipush 8, 2) := by decide +kernel
theorem dX12_far_3 : decode mX12_far.2.1 3 = .ok (.irem, 1) := by decide +kernel
theorem dX12_far_4 : decode mX12_far.2.1 4 = .ok (.iload_n 1, 1) := by decide +kernel
theorem dX12_far_5 : decode mX12_far.2.1 5 = .ok (.bipush 8, 2) := by decide +kernel
theorem dX12_far_7 : decode mX12_far.2.1 7 = .ok (.irem, 1) := by decide +kernel
theorem dX12_far_8 : decode mX12_far.2.1 8 = .ok (.isub, 1) := by decide +kernel
theorem dX12_far_9 : decode mX12_far.2.1 9 = .ok (.invokestatic 166, 3) := by decide +kernel
theorem dX12_far_12 : decode mX12_far.2.1 12 = .ok (.iload_n 0, 1) := by decide +kernel
theorem dX12_far_13 : decode mX12_far.2.1 13 = .ok (.bipush 8, 2) := by decide +kernel
theorem dX12_far_15 : decode mX12_far.2.1 15 = .ok (.idiv, 1) := by decide +kernel
theorem dX12_far_16 : decode mX12_far.2.1 16 = .ok (.iload_n 1, 1) := by decide +kernel
theorem dX12_far_17 : decode mX12_far.2.1 17 = .ok (.bipush 8, 2) := by decide +kernel
theorem dX12_far_19 : decode mX12_far.2.1 19 = .ok (.idiv, 1) := by decide +kernel
theorem dX12_far_20 : decode mX12_far.2.1 20 = .ok (.isub, 1) := by decide +kernel
theorem dX12_far_21 : decode mX12_far.2.1 21 = .ok (.invokestatic 166, 3) := by decide +kernel
theorem dX12_far_24 : decode mX12_far.2.1 24 = .ok (.iadd, 1) := by decide +kernel
theorem dX12_far_25 : decode mX12_far.2.1 25 = .ok (.ireturn, 1) := by decide +kernel
theorem dX12_does_0 : decode mX12_does.2.1 0 = .ok (.aload_n 0, 1) := by decide +kernel
theorem dX12_does_1 : decode mX12_does.2.1 1 = .ok (.getfield 22, 3) := by decide +kernel
theorem dX12_does_4 : decode mX12_does.2.1 4 = .ok (.iload_n 1, 1) := by decide +kernel
theorem dX12_does_5 : decode mX12_does.2.1 5 = .ok (.iaload, 1) := by decide +kernel
theorem dX12_does_6 : decode mX12_does.2.1 6 = .ok (.istore_n 2, 1) := by decide +kernel
theorem dX12_does_7 : decode mX12_does.2.1 7 = .ok (.aload_n 0, 1) := by decide +kernel
theorem dX12_does_8 : decode mX12_does.2.1 8 = .ok (.getfield 25, 3) := by decide +kernel
theorem dX12_does_11 : decode mX12_does.2.1 11 = .ok (.iload_n 1, 1) := by decide +kernel
theorem dX12_does_12 : decode mX12_does.2.1 12 = .ok (.iaload, 1) := by decide +kernel
theorem dX12_does_13 : decode mX12_does.2.1 13 = .ok (.istore_n 3, 1) := by decide +kernel
theorem dX12_does_14 : decode mX12_does.2.1 14 = .ok (.aload_n 0, 1) := by decide +kernel
theorem dX12_does_15 : decode mX12_does.2.1 15 = .ok (.getfield 16, 3) := by decide +kernel
theorem dX12_does_18 : decode mX12_does.2.1 18 = .ok (.iload_n 1, 1) := by decide +kernel
theorem dX12_does_19 : decode mX12_does.2.1 19 = .ok (.iaload, 1) := by decide +kernel
theorem dX12_does_20 : decode mX12_does.2.1 20 = .ok (.tableswitch 256 0 10 #[60, 87, 101, 116, 124, 132, 182, 197, 212, 233, 247], 60) := by decide +kernel
theorem dX12_does_80 : decode mX12_does.2.1 80 = .ok (.aload_n 0, 1) := by decide +kernel
theorem dX12_does_81 : decode mX12_does.2.1 81 = .ok (.getfield 7, 3) := by decide +kernel
theorem dX12_does_84 : decode mX12_does.2.1 84 = .ok (.iconst 0, 1) := by decide +kernel
theorem dX12_does_85 : decode mX12_does.2.1 85 = .ok (.iload_n 2, 1) := by decide +kernel
theorem dX12_does_86 : decode mX12_does.2.1 86 = .ok (.iadd, 1) := by decide +kernel
theorem dX12_does_87 : decode mX12_does.2.1 87 = .ok (.iload_n 3, 1) := by decide +kernel
theorem dX12_does_88 : decode mX12_does.2.1 88 = .ok (.iastore, 1) := by decide +kernel
theorem dX12_does_89 : decode mX12_does.2.1 89 = .ok (.aload_n 0, 1) := by decide +kernel
theorem dX12_does_90 : decode mX12_does.2.1 90 = .ok (.getfield 7, 3) := by decide +kernel
theorem dX12_does_93 : decode mX12_does.2.1 93 = .ok (.bipush 64, 2) := by decide +kernel
theorem dX12_does_95 : decode mX12_does.2.1 95 = .ok (.iload_n 2, 1) := by decide +kernel
theorem dX12_does_96 : decode mX12_does.2.1 96 = .ok (.iadd, 1) := by decide +kernel
theorem dX12_does_97 : decode mX12_does.2.1 97 = .ok (.aload_n 0, 1) := by decide +kernel
theorem dX12_does_98 : decode mX12_does.2.1 98 = .ok (.getfield 28, 3) := by decide +kernel
theorem dX12_does_101 : decode mX12_does.2.1 101 = .ok (.iload_n 1, 1) := by decide +kernel
theorem dX12_does_102 : decode mX12_does.2.1 102 = .ok (.iaload, 1) := by decide +kernel
theorem dX12_does_103 : decode mX12_does.2.1 103 = .ok (.iastore, 1) := by decide +kernel
theorem dX12_does_104 : decode mX12_does.2.1 104 = .ok (.goto 197, 3) := by decide +kernel
theorem dX12_does_107 : decode mX12_does.2.1 107 = .ok (.aload_n 0, 1) := by decide +kernel
theorem dX12_does_108 : decode mX12_does.2.1 108 = .ok (.getfield 7, 3) := by decide +kernel
theorem dX12_does_111 : decode mX12_does.2.1 111 = .ok (.sipush 1626, 3) := by decide +kernel
theorem dX12_does_114 : decode mX12_does.2.1 114 = .ok (.iload_n 2, 1) := by decide +kernel
theorem dX12_does_115 : decode mX12_does.2.1 115 = .ok (.iadd, 1) := by decide +kernel
theorem dX12_does_116 : decode mX12_does.2.1 116 = .ok (.iload_n 3, 1) := by decide +kernel
theorem dX12_does_117 : decode mX12_does.2.1 117 = .ok (.iastore, 1) := by decide +kernel
theorem dX12_does_118 : decode mX12_does.2.1 118 = .ok (.goto 183, 3) := by decide +kernel
theorem dX12_does_121 : decode mX12_does.2.1 121 = .ok (.aload_n 0, 1) := by decide +kernel
theorem dX12_does_122 : decode mX12_does.2.1 122 = .ok (.getfield 7, 3) := by decide +kernel
theorem dX12_does_125 : decode mX12_does.2.1 125 = .ok (.sipush 1630, 3) := by decide +kernel
theorem dX12_does_128 : decode mX12_does.2.1 128 = .ok (.dup2, 1) := by decide +kernel
theorem dX12_does_129 : decode mX12_does.2.1 129 = .ok (.iaload, 1) := by decide +kernel
theorem dX12_does_130 : decode mX12_does.2.1 130 = .ok (.iconst 1, 1) := by decide +kernel
theorem dX12_does_131 : decode mX12_does.2.1 131 = .ok (.iadd, 1) := by decide +kernel
theorem dX12_does_132 : decode mX12_does.2.1 132 = .ok (.iastore, 1) := by decide +kernel
theorem dX12_does_133 : decode mX12_does.2.1 133 = .ok (.goto 168, 3) := by decide +kernel
theorem dX12_does_136 : decode mX12_does.2.1 136 = .ok (.aload_n 0, 1) := by decide +kernel
theorem dX12_does_137 : decode mX12_does.2.1 137 = .ok (.iload_n 2, 1) := by decide +kernel
theorem dX12_does_138 : decode mX12_does.2.1 138 = .ok (.invokevirtual 182, 3) := by decide +kernel
theorem dX12_does_141 : decode mX12_does.2.1 141 = .ok (.goto 160, 3) := by decide +kernel
theorem dX12_does_144 : decode mX12_does.2.1 144 = .ok (.aload_n 0, 1) := by decide +kernel
theorem dX12_does_145 : decode mX12_does.2.1 145 = .ok (.iload_n 2, 1) := by decide +kernel
theorem dX12_does_146 : decode mX12_does.2.1 146 = .ok (.invokevirtual 185, 3) := by decide +kernel
theorem dX12_does_149 : decode mX12_does.2.1 149 = .ok (.goto 152, 3) := by decide +kernel
theorem dX12_does_152 : decode mX12_does.2.1 152 = .ok (.aload_n 0, 1) := by decide +kernel
theorem dX12_does_153 : decode mX12_does.2.1 153 = .ok (.getfield 7, 3) := by decide +kernel
theorem dX12_does_156 : decode mX12_does.2.1 156 = .ok (.sipush 1504, 3) := by decide +kernel
theorem dX12_does_159 : decode mX12_does.2.1 159 = .ok (.iload_n 2, 1) := by decide +kernel
theorem dX12_does_160 : decode mX12_does.2.1 160 = .ok (.iadd, 1) := by decide +kernel
theorem dX12_does_161 : decode mX12_does.2.1 161 = .ok (.aload_n 0, 1) := by decide +kernel
theorem dX12_does_162 : decode mX12_does.2.1 162 = .ok (.iconst 2, 1) := by decide +kernel
theorem dX12_does_163 : decode mX12_does.2.1 163 = .ok (.iload_n 2, 1) := by decide +kernel
theorem dX12_does_164 : decode mX12_does.2.1 164 = .ok (.invokevirtual 188, 3) := by decide +kernel
theorem dX12_does_167 : decode mX12_does.2.1 167 = .ok (.ifCond .eq 7, 3) := by decide +kernel
theorem dX12_does_170 : decode mX12_does.2.1 170 = .ok (.iconst 3, 1) := by decide +kernel
theorem dX12_does_171 : decode mX12_does.2.1 171 = .ok (.goto 4, 3) := by decide +kernel
theorem dX12_does_174 : decode mX12_does.2.1 174 = .ok (.iconst 0, 1) := by decide +kernel
theorem dX12_does_175 : decode mX12_does.2.1 175 = .ok (.iastore, 1) := by decide +kernel
theorem dX12_does_176 : decode mX12_does.2.1 176 = .ok (.aload_n 0, 1) := by decide +kernel
theorem dX12_does_177 : decode mX12_does.2.1 177 = .ok (.getfield 7, 3) := by decide +kernel
theorem dX12_does_180 : decode mX12_does.2.1 180 = .ok (.sipush 1564, 3) := by decide +kernel
theorem dX12_does_183 : decode mX12_does.2.1 183 = .ok (.iload_n 2, 1) := by decide +kernel
theorem dX12_does_184 : decode mX12_does.2.1 184 = .ok (.iadd, 1) := by decide +kernel
theorem dX12_does_185 : decode mX12_does.2.1 185 = .ok (.iconst (-1), 1) := by decide +kernel
theorem dX12_does_186 : decode mX12_does.2.1 186 = .ok (.iastore, 1) := by decide +kernel
theorem dX12_does_187 : decode mX12_does.2.1 187 = .ok (.aload_n 0, 1) := by decide +kernel
theorem dX12_does_188 : decode mX12_does.2.1 188 = .ok (.getfield 7, 3) := by decide +kernel
theorem dX12_does_191 : decode mX12_does.2.1 191 = .ok (.sipush 1632, 3) := by decide +kernel
theorem dX12_does_194 : decode mX12_does.2.1 194 = .ok (.dup2, 1) := by decide +kernel
theorem dX12_does_195 : decode mX12_does.2.1 195 = .ok (.iaload, 1) := by decide +kernel
theorem dX12_does_196 : decode mX12_does.2.1 196 = .ok (.iconst 1, 1) := by decide +kernel
theorem dX12_does_197 : decode mX12_does.2.1 197 = .ok (.iadd, 1) := by decide +kernel
theorem dX12_does_198 : decode mX12_does.2.1 198 = .ok (.iastore, 1) := by decide +kernel
theorem dX12_does_199 : decode mX12_does.2.1 199 = .ok (.goto 102, 3) := by decide +kernel
theorem dX12_does_202 : decode mX12_does.2.1 202 = .ok (.aload_n 0, 1) := by decide +kernel
theorem dX12_does_203 : decode mX12_does.2.1 203 = .ok (.getfield 7, 3) := by decide +kernel
theorem dX12_does_206 : decode mX12_does.2.1 206 = .ok (.sipush 1633, 3) := by decide +kernel
theorem dX12_does_209 : decode mX12_does.2.1 209 = .ok (.dup2, 1) := by decide +kernel
theorem dX12_does_210 : decode mX12_does.2.1 210 = .ok (.iaload, 1) := by decide +kernel
theorem dX12_does_211 : decode mX12_does.2.1 211 = .ok (.iconst 1, 1) := by decide +kernel
theorem dX12_does_212 : decode mX12_does.2.1 212 = .ok (.iadd, 1) := by decide +kernel
theorem dX12_does_213 : decode mX12_does.2.1 213 = .ok (.iastore, 1) := by decide +kernel
theorem dX12_does_214 : decode mX12_does.2.1 214 = .ok (.goto 87, 3) := by decide +kernel
theorem dX12_does_217 : decode mX12_does.2.1 217 = .ok (.aload_n 0, 1) := by decide +kernel
theorem dX12_does_218 : decode mX12_does.2.1 218 = .ok (.getfield 7, 3) := by decide +kernel
theorem dX12_does_221 : decode mX12_does.2.1 221 = .ok (.sipush 1634, 3) := by decide +kernel
theorem dX12_does_224 : decode mX12_does.2.1 224 = .ok (.dup2, 1) := by decide +kernel
theorem dX12_does_225 : decode mX12_does.2.1 225 = .ok (.iaload, 1) := by decide +kernel
theorem dX12_does_226 : decode mX12_does.2.1 226 = .ok (.iconst 1, 1) := by decide +kernel
theorem dX12_does_227 : decode mX12_does.2.1 227 = .ok (.iadd, 1) := by decide +kernel
theorem dX12_does_228 : decode mX12_does.2.1 228 = .ok (.iastore, 1) := by decide +kernel
theorem dX12_does_229 : decode mX12_does.2.1 229 = .ok (.goto 72, 3) := by decide +kernel
theorem dX12_does_232 : decode mX12_does.2.1 232 = .ok (.aload_n 0, 1) := by decide +kernel
theorem dX12_does_233 : decode mX12_does.2.1 233 = .ok (.getfield 7, 3) := by decide +kernel
theorem dX12_does_236 : decode mX12_does.2.1 236 = .ok (.sipush 192, 3) := by decide +kernel
theorem dX12_does_239 : decode mX12_does.2.1 239 = .ok (.iload_n 2, 1) := by decide +kernel
theorem dX12_does_240 : decode mX12_does.2.1 240 = .ok (.iadd, 1) := by decide +kernel
theorem dX12_does_241 : decode mX12_does.2.1 241 = .ok (.iaload, 1) := by decide +kernel
theorem dX12_does_242 : decode mX12_does.2.1 242 = .ok (.ifCond .ne 59, 3) := by decide +kernel
theorem dX12_does_245 : decode mX12_does.2.1 245 = .ok (.aload_n 0, 1) := by decide +kernel
theorem dX12_does_246 : decode mX12_does.2.1 246 = .ok (.iload_n 2, 1) := by decide +kernel
theorem dX12_does_247 : decode mX12_does.2.1 247 = .ok (.invokevirtual 192, 3) := by decide +kernel
theorem dX12_does_250 : decode mX12_does.2.1 250 = .ok (.goto 51, 3) := by decide +kernel
theorem dX12_does_253 : decode mX12_does.2.1 253 = .ok (.aload_n 0, 1) := by decide +kernel
theorem dX12_does_254 : decode mX12_does.2.1 254 = .ok (.getfield 7, 3) := by decide +kernel
theorem dX12_does_257 : decode mX12_does.2.1 257 = .ok (.sipush 512, 3) := by decide +kernel
theorem dX12_does_260 : decode mX12_does.2.1 260 = .ok (.iload_n 2, 1) := by decide +kernel
theorem dX12_does_261 : decode mX12_does.2.1 261 = .ok (.iadd, 1) := by decide +kernel
theorem dX12_does_262 : decode mX12_does.2.1 262 = .ok (.iload_n 3, 1) := by decide +kernel
theorem dX12_does_263 : decode mX12_does.2.1 263 = .ok (.iastore, 1) := by decide +kernel
theorem dX12_does_264 : decode mX12_does.2.1 264 = .ok (.goto 37, 3) := by decide +kernel
theorem dX12_does_267 : decode mX12_does.2.1 267 = .ok (.aload_n 0, 1) := by decide +kernel
theorem dX12_does_268 : decode mX12_does.2.1 268 = .ok (.iload_n 2, 1) := by decide +kernel
theorem dX12_does_269 : decode mX12_does.2.1 269 = .ok (.iload_n 3, 1) := by decide +kernel
theorem dX12_does_270 : decode mX12_does.2.1 270 = .ok (.invokevirtual 195, 3) := by decide +kernel
theorem dX12_does_273 : decode mX12_does.2.1 273 = .ok (.goto 28, 3) := by decide +kernel
theorem dX12_does_276 : decode mX12_does.2.1 276 = .ok (.aload_n 0, 1) := by decide +kernel
theorem dX12_does_277 : decode mX12_does.2.1 277 = .ok (.getfield 7, 3) := by decide +kernel
theorem dX12_does_280 : decode mX12_does.2.1 280 = .ok (.sipush 192, 3) := by decide +kernel
theorem dX12_does_283 : decode mX12_does.2.1 283 = .ok (.iload_n 2, 1) := by decide +kernel
theorem dX12_does_284 : decode mX12_does.2.1 284 = .ok (.iadd, 1) := by decide +kernel
theorem dX12_does_285 : decode mX12_does.2.1 285 = .ok (.iaload, 1) := by decide +kernel
theorem dX12_does_286 : decode mX12_does.2.1 286 = .ok (.iconst 1, 1) := by decide +kernel
theorem dX12_does_287 : decode mX12_does.2.1 287 = .ok (.if_icmp .ne 14, 3) := by decide +kernel
theorem dX12_does_290 : decode mX12_does.2.1 290 = .ok (.aload_n 0, 1) := by decide +kernel
theorem dX12_does_291 : decode mX12_does.2.1 291 = .ok (.getfield 7, 3) := by decide +kernel
theorem dX12_does_294 : decode mX12_does.2.1 294 = .ok (.sipush 320, 3) := by decide +kernel
theorem dX12_does_297 : decode mX12_does.2.1 297 = .ok (.iload_n 2, 1) := by decide +kernel
theorem dX12_does_298 : decode mX12_does.2.1 298 = .ok (.iadd, 1) := by decide +kernel
theorem dX12_does_299 : decode mX12_does.2.1 299 = .ok (.iload_n 3, 1) := by decide +kernel
theorem dX12_does_300 : decode mX12_does.2.1 300 = .ok (.iastore, 1) := by decide +kernel
theorem dX12_does_301 : decode mX12_does.2.1 301 = .ok (.return_, 1) := by decide +kernel
theorem dX12_isGoal_0 : decode mX12_isGoal.2.1 0 = .ok (.iload_n 2, 1) := by decide +kernel
theorem dX12_isGoal_1 : decode mX12_isGoal.2.1 1 = .ok (.ifCond .eq 20, 3) := by decide +kernel
theorem dX12_isGoal_4 : decode mX12_isGoal.2.1 4 = .ok (.iload_n 0, 1) := by decide +kernel
theorem dX12_isGoal_5 : decode mX12_isGoal.2.1 5 = .ok (.iload_n 1, 1) := by decide +kernel
theorem dX12_isGoal_6 : decode mX12_isGoal.2.1 6 = .ok (.invokestatic 245, 3) := by decide +kernel
theorem dX12_isGoal_9 : decode mX12_isGoal.2.1 9 = .ok (.iconst 1, 1) := by decide +kernel
theorem dX12_isGoal_10 : decode mX12_isGoal.2.1 10 = .ok (.if_icmp .ne 7, 3) := by decide +kernel
theorem dX12_isGoal_13 : decode mX12_isGoal.2.1 13 = .ok (.iconst 1, 1) := by decide +kernel
theorem dX12_isGoal_14 : decode mX12_isGoal.2.1 14 = .ok (.goto 17, 3) := by decide +kernel
theorem dX12_isGoal_17 : decode mX12_isGoal.2.1 17 = .ok (.iconst 0, 1) := by decide +kernel
theorem dX12_isGoal_18 : decode mX12_isGoal.2.1 18 = .ok (.goto 13, 3) := by decide +kernel
theorem dX12_isGoal_21 : decode mX12_isGoal.2.1 21 = .ok (.iload_n 0, 1) := by decide +kernel
theorem dX12_isGoal_22 : decode mX12_isGoal.2.1 22 = .ok (.iload_n 1, 1) := by decide +kernel
theorem dX12_isGoal_23 : decode mX12_isGoal.2.1 23 = .ok (.if_icmp .ne 7, 3) := by decide +kernel
theorem dX12_isGoal_26 : decode mX12_isGoal.2.1 26 = .ok (.iconst 1, 1) := by decide +kernel
theorem dX12_isGoal_27 : decode mX12_isGoal.2.1 27 = .ok (.goto 4, 3) := by decide +kernel
theorem dX12_isGoal_30 : decode mX12_isGoal.2.1 30 = .ok (.iconst 0, 1) := by decide +kernel
theorem dX12_isGoal_31 : decode mX12_isGoal.2.1 31 = .ok (.ireturn, 1) := by decide +kernel
def w_X12_isSpot_p69_b (post : Int32 → am_I → am_N → Prop) (zk69 : Int32 → Int32 → am_I → am_N → Prop) (l3 : Int32) (l4 : Int32) (M : am_I) (N : am_N) : Prop :=
  ((64 ≤ l4 → (l3 = 0 ∨ l3 = 1) ∧ post l3 M N) ∧ (¬ 64 ≤ l4 → ((l3 = 0 → zk69 0 (l4 + 1) M N) ∧ (¬ l3 = 0 → vp_in (192 + l4) 1635 ∧ (((M (3, 0, 1) (192 + l4).toNatClampNeg) = 0 → zk69 1 (l4 + 1) M N) ∧ (¬ (M (3, 0, 1) (192 + l4).toNatClampNeg) = 0 → vp_in (320 + l4) 1635 ∧ (((M (3, 0, 1) (320 + l4).toNatClampNeg) = 0 → zk69 1 (l4 + 1) M N) ∧ (¬ (M (3, 0, 1) (320 + l4).toNatClampNeg) = 0 → vp_in l4 64 ∧ (((M (3, 0, 29) l4.toNatClampNeg) = (-1) → zk69 0 (l4 + 1) M N) ∧ (¬ (M (3, 0, 29) l4.toNatClampNeg) = (-1) → zk69 1 (l4 + 1) M N))))))))))
noncomputable def w_X12_isSpot_p69 (post : Int32 → am_I → am_N → Prop) (n : Nat) : Int32 → Int32 → am_I → am_N → Prop :=
  Nat.rec (motive := fun _ => Int32 → Int32 → am_I → am_N → Prop) (fun _ _ _ _ => False) (fun _ zk => w_X12_isSpot_p69_b post zk) n
theorem w_X12_isSpot_p69_s (post : Int32 → am_I → am_N → Prop) (n : Nat) (l3 : Int32) (l4 : Int32) (M : am_I) (N : am_N) : w_X12_isSpot_p69 post (n + 1) l3 l4 M N = w_X12_isSpot_p69_b post (w_X12_isSpot_p69 post n) l3 l4 M N := rfl
set_option maxRecDepth 10000 in
theorem k_X12_isSpot_p69 {d : Nat} {dm : List am_C} (h3 : am_d3 dm) {post : Int32 → am_I → am_N → Prop} : ∀ (n : Nat) (l3 : Int32) (l4 : Int32) (M : am_I) (N : am_N), w_X12_isSpot_p69 post n l3 l4 M N → jg (d + 3) mX12_isSpot dm 69 [(0, .inr (.inr (3, 0, 0))), (3, .inl l3), (4, .inl l4)] [] M N (am_pi post) := by
  intro n
  induction n with
  | zero => intro l3 l4 M N h; exact h.elim
  | succ n zih =>
    intro l3 l4 M N h
    replace h : w_X12_isSpot_p69_b post (w_X12_isSpot_p69 post n) l3 l4 M N := h
    refine j_iload 2 dX12_isSpot_69 rfl ?_
    refine j_bipush (v := 64) dX12_isSpot_71 (by decide) ?_
    refine j_icmp_ge (tgt := 131) dX12_isSpot_73 (by decide) (fun hc => ?_) (fun hc => ?_)
    · replace h := h.1 hc
      refine j_iload_n 1 dX12_isSpot_131 rfl ?_
      exact j_zret dX12_isSpot_132 rfl h.1 ⟨_, rfl, h.2⟩
    · replace h := h.2 hc
      refine j_iload_n 1 dX12_isSpot_76 rfl ?_
      refine j_if_eq (tgt := 123) dX12_isSpot_77 (by decide) (fun hc => ?_) (fun hc => ?_)
      · replace h := h.1 hc
        refine j_iconst (v := 0) dX12_isSpot_123 (by decide) ?_
        refine j_istore_n dX12_isSpot_124 (by decide) rfl ?_
        refine j_iinc 2 dX12_isSpot_125 rfl rfl (by decide) rfl ?_
        refine j_goto (tgt := 69) dX12_isSpot_128 (by decide) ?_
        refine j_sub [2, 1, 0] rfl ?_
        exact zih _ _ _ _ h
      · replace h := h.2 hc
        refine j_aload_n 0 dX12_isSpot_80 rfl ?_
        refine j_getR (b := (3, 0, 1)) dX12_isSpot_81 fsRX12_7 (h3 0 (by decide)) rfl rfl ?_
        refine j_sipush (v := 192) dX12_isSpot_84 (by decide) ?_
        refine j_iload 2 dX12_isSpot_87 rfl ?_
        refine j_iadd dX12_isSpot_89 ?_
        obtain ⟨hq, h⟩ := h
        refine j_iald dX12_isSpot_90 (h3 1 (by decide)) rfl hq ?_
        refine j_if_eq (tgt := 119) dX12_isSpot_91 (by decide) (fun hc => ?_) (fun hc => ?_)
        · replace h := h.1 hc
          refine j_iconst (v := 1) dX12_isSpot_119 (by decide) ?_
          refine j_goto (tgt := 124) dX12_isSpot_120 (by decide) ?_
          refine j_istore_n dX12_isSpot_124 (by decide) rfl ?_
          refine j_iinc 2 dX12_isSpot_125 rfl rfl (by decide) rfl ?_
          refine j_goto (tgt := 69) dX12_isSpot_128 (by decide) ?_
          refine j_sub [2, 1, 0] rfl ?_
          exact zih _ _ _ _ h
        · replace h := h.2 hc
          refine j_aload_n 0 dX12_isSpot_94 rfl ?_
          refine j_getR (b := (3, 0, 1)) dX12_isSpot_95 fsRX12_7 (h3 0 (by decide)) rfl rfl ?_
          refine j_sipush (v := 320) dX12_isSpot_98 (by decide) ?_
          refine j_iload 2 dX12_isSpot_101 rfl ?_
          refine j_iadd dX12_isSpot_103 ?_
          obtain ⟨hq, h⟩ := h
          refine j_iald dX12_isSpot_104 (h3 1 (by decide)) rfl hq ?_
          refine j_if_eq (tgt := 119) dX12_isSpot_105 (by decide) (fun hc => ?_) (fun hc => ?_)
          · replace h := h.1 hc
            refine j_iconst (v := 1) dX12_isSpot_119 (by decide) ?_
            refine j_goto (tgt := 124) dX12_isSpot_120 (by decide) ?_
            refine j_istore_n dX12_isSpot_124 (by decide) rfl ?_
            refine j_iinc 2 dX12_isSpot_125 rfl rfl (by decide) rfl ?_
            refine j_goto (tgt := 69) dX12_isSpot_128 (by decide) ?_
            refine j_sub [2, 1, 0] rfl ?_
            exact zih _ _ _ _ h
          · replace h := h.2 hc
            refine j_aload_n 0 dX12_isSpot_108 rfl ?_
            refine j_getR (b := (3, 0, 29)) dX12_isSpot_109 fsRX12_100 (h3 0 (by decide)) rfl rfl ?_
            refine j_iload 2 dX12_isSpot_112 rfl ?_
            obtain ⟨hq, h⟩ := h
            refine j_iald dX12_isSpot_114 (h3 29 (by decide)) rfl hq ?_
            refine j_iconst (v := (-1)) dX12_isSpot_115 (by decide) ?_
            refine j_icmp_eq (tgt := 123) dX12_isSpot_116 (by decide) (fun hc => ?_) (fun hc => ?_)
            · replace h := h.1 hc
              refine j_iconst (v := 0) dX12_isSpot_123 (by decide) ?_
              refine j_istore_n dX12_isSpot_124 (by decide) rfl ?_
              refine j_iinc 2 dX12_isSpot_125 rfl rfl (by decide) rfl ?_
              refine j_goto (tgt := 69) dX12_isSpot_128 (by decide) ?_
              refine j_sub [2, 1, 0] rfl ?_
              exact zih _ _ _ _ h
            · replace h := h.2 hc
              refine j_iconst (v := 1) dX12_isSpot_119 (by decide) ?_
              refine j_goto (tgt := 124) dX12_isSpot_120 (by decide) ?_
              refine j_istore_n dX12_isSpot_124 (by decide) rfl ?_
              refine j_iinc 2 dX12_isSpot_125 rfl rfl (by decide) rfl ?_
              refine j_goto (tgt := 69) dX12_isSpot_128 (by decide) ?_
              refine j_sub [2, 1, 0] rfl ?_
              exact zih _ _ _ _ h
def w_X12_isSpot_p23 (post : Int32 → am_I → am_N → Prop) (zk2 : Int32 → Int32 → Int32 → am_I → am_N → Prop) (l1 : Int32) (l2 : Int32) (l3 : Int32) (s0 : Int32) (s1 : Int32) (M : am_I) (N : am_N) : Prop :=
  vp_in s1 64 ∧ vp_in l3 64 ∧ zk2 l1 l2 (l3 + 1) (am_u (am_u M (3, 0, 29) s1.toNatClampNeg s0) (3, 0, 30) l3.toNatClampNeg (vp_nar .boolean 0)) N
set_option maxRecDepth 10000 in
theorem k_X12_isSpot_p23 {d : Nat} {dm : List am_C} (h3 : am_d3 dm) {post : Int32 → am_I → am_N → Prop} {zk2 : Int32 → Int32 → Int32 → am_I → am_N → Prop} (zhk2 : ∀ (l1 : Int32) (l2 : Int32) (l3 : Int32) (M : am_I) (N : am_N), zk2 l1 l2 l3 M N → jg (d + 3) mX12_isSpot dm 2 [(0, .inr (.inr (3, 0, 0))), (1, .inl l1), (2, .inl l2), (3, .inl l3)] [] M N (am_pi post)) (l1 : Int32) (l2 : Int32) (l3 : Int32) (s0 : Int32) (s1 : Int32) (M : am_I) (N : am_N) (h : w_X12_isSpot_p23 post zk2 l1 l2 l3 s0 s1 M N) : jg (d + 3) mX12_isSpot dm 23 [(0, .inr (.inr (3, 0, 0))), (1, .inl l1), (2, .inl l2), (3, .inl l3)] [.inl s0, .inl s1, .inr (.inr (3, 0, 29))] M N (am_pi post) := by
  obtain ⟨hq, h⟩ := h
  refine j_iast dX12_isSpot_23 (h3 29 (by decide)) rfl hq ?_
  refine j_aload_n 0 dX12_isSpot_24 rfl ?_
  refine j_getR (b := (3, 0, 30)) dX12_isSpot_25 fsRX12_103 (h3 0 (by decide)) rfl rfl ?_
  refine j_iload_n 3 dX12_isSpot_28 rfl ?_
  refine j_iconst (v := 0) dX12_isSpot_29 (by decide) ?_
  obtain ⟨hq, h⟩ := h
  refine j_zast dX12_isSpot_30 (h3 30 (by decide)) rfl hq ?_
  refine j_iinc 3 dX12_isSpot_31 rfl rfl (by decide) rfl ?_
  refine j_goto (tgt := 2) dX12_isSpot_34 (by decide) ?_
  refine j_sub [1, 2, 3, 0] rfl ?_
  exact zhk2 _ _ _ _ _ h
def w_X12_isSpot_p2_b (post : Int32 → am_I → am_N → Prop) (zk2 : Int32 → Int32 → Int32 → am_I → am_N → Prop) (l1 : Int32) (l2 : Int32) (l3 : Int32) (M : am_I) (N : am_N) : Prop :=
  ((64 ≤ l3 → w_X12_spreads l2 M N (fun zM1 zN2 => vp_in (192 + l1) 1635 ∧ ((¬ (zM1 (3, 0, 1) (192 + l1).toNatClampNeg) = 1 → ∃ n, w_X12_isSpot_p69 post n 0 0 zM1 zN2) ∧ ((zM1 (3, 0, 1) (192 + l1).toNatClampNeg) = 1 → ∃ n, w_X12_isSpot_p69 post n 1 0 zM1 zN2)))) ∧ (¬ 64 ≤ l3 → ((¬ l3 = l1 → w_X12_isSpot_p23 post zk2 l1 l2 l3 (-1) l3 M N) ∧ (l3 = l1 → w_X12_isSpot_p23 post zk2 l1 l2 l3 0 l3 M N))))
noncomputable def w_X12_isSpot_p2 (post : Int32 → am_I → am_N → Prop) (n : Nat) : Int32 → Int32 → Int32 → am_I → am_N → Prop :=
  Nat.rec (motive := fun _ => Int32 → Int32 → Int32 → am_I → am_N → Prop) (fun _ _ _ _ _ => False) (fun _ zk => w_X12_isSpot_p2_b post zk) n
theorem w_X12_isSpot_p2_s (post : Int32 → am_I → am_N → Prop) (n : Nat) (l1 : Int32) (l2 : Int32) (l3 : Int32) (M : am_I) (N : am_N) : w_X12_isSpot_p2 post (n + 1) l1 l2 l3 M N = w_X12_isSpot_p2_b post (w_X12_isSpot_p2 post n) l1 l2 l3 M N := rfl
set_option maxRecDepth 10000 in
theorem k_X12_isSpot_p2 {d : Nat} {dm : List am_C} (h3 : am_d3 dm) {post : Int32 → am_I → am_N → Prop} : ∀ (n : Nat) (l1 : Int32) (l2 : Int32) (l3 : Int32) (M : am_I) (N : am_N), w_X12_isSpot_p2 post n l1 l2 l3 M N → jg (d + 3) mX12_isSpot dm 2 [(0, .inr (.inr (3, 0, 0))), (1, .inl l1), (2, .inl l2), (3, .inl l3)] [] M N (am_pi post) := by
  intro n
  induction n with
  | zero => intro l1 l2 l3 M N h; exact h.elim
  | succ n zih =>
    intro l1 l2 l3 M N h
    replace h : w_X12_isSpot_p2_b post (w_X12_isSpot_p2 post n) l1 l2 l3 M N := h
    refine j_iload_n 3 dX12_isSpot_2 rfl ?_
    refine j_bipush (v := 64) dX12_isSpot_3 (by decide) ?_
    refine j_icmp_ge (tgt := 37) dX12_isSpot_5 (by decide) (fun hc => ?_) (fun hc => ?_)
    · replace h := h.1 hc
      refine j_aload_n 0 dX12_isSpot_37 rfl ?_
      refine j_iload_n 2 dX12_isSpot_38 rfl ?_
      refine j_aload_n 0 dX12_isSpot_39 rfl ?_
      refine j_getR (b := (3, 0, 30)) dX12_isSpot_40 fsRX12_103 (h3 0 (by decide)) rfl rfl ?_
      refine j_invV (As := [.inl l2, .inr (.inr (3, 0, 30))]) dX12_isSpot_43 msRX12_330 mbX12_spreads rfl rfl (Nat.le_of_ble_eq_true rfl) (Nat.le_of_ble_eq_true rfl) (by omega) (h3 0 (by decide)) rfl rfl (k_X12_spreads (d := d + 0) h3 h) ?_
      rintro _ zM1 zN2 ⟨rfl, h⟩
      refine j_aload_n 0 dX12_isSpot_46 rfl ?_
      refine j_getR (b := (3, 0, 1)) dX12_isSpot_47 fsRX12_7 (h3 0 (by decide)) rfl rfl ?_
      refine j_sipush (v := 192) dX12_isSpot_50 (by decide) ?_
      refine j_iload_n 1 dX12_isSpot_53 rfl ?_
      refine j_iadd dX12_isSpot_54 ?_
      obtain ⟨hq, h⟩ := h
      refine j_iald dX12_isSpot_55 (h3 1 (by decide)) rfl hq ?_
      refine j_iconst (v := 1) dX12_isSpot_56 (by decide) ?_
      refine j_icmp_ne (tgt := 64) dX12_isSpot_57 (by decide) (fun hc => ?_) (fun hc => ?_)
      · replace h := h.1 hc
        refine j_iconst (v := 0) dX12_isSpot_64 (by decide) ?_
        refine j_istore_n dX12_isSpot_65 (by decide) rfl ?_
        refine j_iconst (v := 0) dX12_isSpot_66 (by decide) ?_
        refine j_istore dX12_isSpot_67 (by decide) rfl ?_
        refine j_sub [2, 1, 0] rfl ?_
        obtain ⟨n, h⟩ := h
        exact k_X12_isSpot_p69 h3 n _ _ _ _ h
      · replace h := h.2 hc
        refine j_iconst (v := 1) dX12_isSpot_60 (by decide) ?_
        refine j_goto (tgt := 65) dX12_isSpot_61 (by decide) ?_
        refine j_istore_n dX12_isSpot_65 (by decide) rfl ?_
        refine j_iconst (v := 0) dX12_isSpot_66 (by decide) ?_
        refine j_istore dX12_isSpot_67 (by decide) rfl ?_
        refine j_sub [2, 1, 0] rfl ?_
        obtain ⟨n, h⟩ := h
        exact k_X12_isSpot_p69 h3 n _ _ _ _ h
    · replace h := h.2 hc
      refine j_aload_n 0 dX12_isSpot_8 rfl ?_
      refine j_getR (b := (3, 0, 29)) dX12_isSpot_9 fsRX12_100 (h3 0 (by decide)) rfl rfl ?_
      refine j_iload_n 3 dX12_isSpot_12 rfl ?_
      refine j_iload_n 3 dX12_isSpot_13 rfl ?_
      refine j_iload_n 1 dX12_isSpot_14 rfl ?_
      refine j_icmp_ne (tgt := 22) dX12_isSpot_15 (by decide) (fun hc => ?_) (fun hc => ?_)
      · replace h := h.1 hc
        refine j_iconst (v := (-1)) dX12_isSpot_22 (by decide) ?_
        refine j_sub [0, 1, 2, 3] rfl ?_
        exact k_X12_isSpot_p23 h3 zih _ _ _ _ _ _ _ h
      · replace h := h.2 hc
        refine j_iconst (v := 0) dX12_isSpot_18 (by decide) ?_
        refine j_goto (tgt := 23) dX12_isSpot_19 (by decide) ?_
        refine j_sub [0, 1, 2, 3] rfl ?_
        exact k_X12_isSpot_p23 h3 zih _ _ _ _ _ _ _ h
def w_X12_isSpot (a1 : Int32) (a2 : Int32) (M : am_I) (N : am_N) (post : Int32 → am_I → am_N → Prop) : Prop :=
  ∃ n, w_X12_isSpot_p2 post n a1 a2 0 M N
set_option maxRecDepth 10000 in
theorem k_X12_isSpot {d : Nat} {dm : List am_C} (h3 : am_d3 dm) {a1 : Int32} {a2 : Int32} {M : am_I} {N : am_N} {post : Int32 → am_I → am_N → Prop} (h : w_X12_isSpot a1 a2 M N post) : jg (d + 3) mX12_isSpot dm 0 [(0, .inr (.inr (3, 0, 0))), (1, .inl a1), (2, .inl a2)] [] M N (am_pi post) := by
  refine j_iconst (v := 0) dX12_isSpot_0 (by decide) ?_
  refine j_istore_n dX12_isSpot_1 (by decide) rfl ?_
  refine j_sub [1, 2, 3, 0] rfl ?_
  obtain ⟨n, h⟩ := h
  exact k_X12_isSpot_p2 h3 n _ _ _ _ _ h
def w_X12_illMany_p44 (post : Int32 → am_I → am_N → Prop) (zk4 : Int32 → Int32 → am_I → am_N → Prop) (l2 : Int32) (s0 : Int32) (s1 : Int32) (M : am_I) (N : am_N) : Prop :=
  w_X12_one s0 M N (fun zr1 zM2 zN3 => zk4 (s1 + zr1) (l2 + 1) zM2 zN3)
set_option maxRecDepth 10000 in
theorem k_X12_illMany_p44 {d : Nat} {dm : List am_C} (h3 : am_d3 dm) {post : Int32 → am_I → am_N → Prop} {zk4 : Int32 → Int32 → am_I → am_N → Prop} (zhk4 : ∀ (l1 : Int32) (l2 : Int32) (M : am_I) (N : am_N), zk4 l1 l2 M N → jg (d + 2) mX12_illMany dm 4 [(0, .inr (.inr (3, 0, 0))), (1, .inl l1), (2, .inl l2)] [] M N (am_pi post)) (l2 : Int32) (s0 : Int32) (s1 : Int32) (M : am_I) (N : am_N) (h : w_X12_illMany_p44 post zk4 l2 s0 s1 M N) : jg (d + 2) mX12_illMany dm 44 [(0, .inr (.inr (3, 0, 0))), (2, .inl l2)] [.inl s0, .inl s1] M N (am_pi post) := by
  refine j_invS (As := [.inl s0]) dX12_illMany_44 msRX12_231 mbX12_one rfl rfl (Nat.le_of_ble_eq_true rfl) (Nat.le_of_ble_eq_true rfl) (by omega) (k_X12_one (d := d + 0)  h) ?_
  rintro _ zM2 zN3 ⟨zr1, rfl, h⟩
  refine j_iadd dX12_illMany_47 ?_
  refine j_istore_n dX12_illMany_48 (by decide) rfl ?_
  refine j_iinc 2 dX12_illMany_49 rfl rfl (by decide) rfl ?_
  refine j_goto (tgt := 4) dX12_illMany_52 (by decide) ?_
  refine j_sub [2, 1, 0] rfl ?_
  exact zhk4 _ _ _ _ h
def w_X12_illMany_p4_b (post : Int32 → am_I → am_N → Prop) (zk4 : Int32 → Int32 → am_I → am_N → Prop) (l1 : Int32) (l2 : Int32) (M : am_I) (N : am_N) : Prop :=
  ((64 ≤ l2 → post l1 M N) ∧ (¬ 64 ≤ l2 → vp_in (192 + l2) 1635 ∧ ((¬ (M (3, 0, 1) (192 + l2).toNatClampNeg) = 1 → w_X12_illMany_p44 post zk4 l2 0 l1 M N) ∧ ((M (3, 0, 1) (192 + l2).toNatClampNeg) = 1 → vp_in (320 + l2) 1635 ∧ ((¬ (M (3, 0, 1) (320 + l2).toNatClampNeg) = 1 → w_X12_illMany_p44 post zk4 l2 0 l1 M N) ∧ ((M (3, 0, 1) (320 + l2).toNatClampNeg) = 1 → w_X12_illMany_p44 post zk4 l2 1 l1 M N))))))
noncomputable def w_X12_illMany_p4 (post : Int32 → am_I → am_N → Prop) (n : Nat) : Int32 → Int32 → am_I → am_N → Prop :=
  Nat.rec (motive := fun _ => Int32 → Int32 → am_I → am_N → Prop) (fun _ _ _ _ => False) (fun _ zk => w_X12_illMany_p4_b post zk) n
theorem w_X12_illMany_p4_s (post : Int32 → am_I → am_N → Prop) (n : Nat) (l1 : Int32) (l2 : Int32) (M : am_I) (N : am_N) : w_X12_illMany_p4 post (n + 1) l1 l2 M N = w_X12_illMany_p4_b post (w_X12_illMany_p4 post n) l1 l2 M N := rfl
set_option maxRecDepth 10000 in
theorem k_X12_illMany_p4 {d : Nat} {dm : List am_C} (h3 : am_d3 dm) {post : Int32 → am_I → am_N → Prop} : ∀ (n : Nat) (l1 : Int32) (l2 : Int32) (M : am_I) (N : am_N), w_X12_illMany_p4 post n l1 l2 M N → jg (d + 2) mX12_illMany dm 4 [(0, .inr (.inr (3, 0, 0))), (1, .inl l1), (2, .inl l2)] [] M N (am_pi post) := by
  intro n
  induction n with
  | zero => intro l1 l2 M N h; exact h.elim
  | succ n zih =>
    intro l1 l2 M N h
    replace h : w_X12_illMany_p4_b post (w_X12_illMany_p4 post n) l1 l2 M N := h
    refine j_iload_n 2 dX12_illMany_4 rfl ?_
    refine j_bipush (v := 64) dX12_illMany_5 (by decide) ?_
    refine j_icmp_ge (tgt := 55) dX12_illMany_7 (by decide) (fun hc => ?_) (fun hc => ?_)
    · replace h := h.1 hc
      refine j_iload_n 1 dX12_illMany_55 rfl ?_
      exact j_iret dX12_illMany_56 rfl ⟨_, rfl, h⟩
    · replace h := h.2 hc
      refine j_iload_n 1 dX12_illMany_10 rfl ?_
      refine j_aload_n 0 dX12_illMany_11 rfl ?_
      refine j_getR (b := (3, 0, 1)) dX12_illMany_12 fsRX12_7 (h3 0 (by decide)) rfl rfl ?_
      refine j_sipush (v := 192) dX12_illMany_15 (by decide) ?_
      refine j_iload_n 2 dX12_illMany_18 rfl ?_
      refine j_iadd dX12_illMany_19 ?_
      obtain ⟨hq, h⟩ := h
      refine j_iald dX12_illMany_20 (h3 1 (by decide)) rfl hq ?_
      refine j_iconst (v := 1) dX12_illMany_21 (by decide) ?_
      refine j_icmp_ne (tgt := 43) dX12_illMany_22 (by decide) (fun hc => ?_) (fun hc => ?_)
      · replace h := h.1 hc
        refine j_iconst (v := 0) dX12_illMany_43 (by decide) ?_
        refine j_sub [0, 2] rfl ?_
        exact k_X12_illMany_p44 h3 zih _ _ _ _ _ h
      · replace h := h.2 hc
        refine j_aload_n 0 dX12_illMany_25 rfl ?_
        refine j_getR (b := (3, 0, 1)) dX12_illMany_26 fsRX12_7 (h3 0 (by decide)) rfl rfl ?_
        refine j_sipush (v := 320) dX12_illMany_29 (by decide) ?_
        refine j_iload_n 2 dX12_illMany_32 rfl ?_
        refine j_iadd dX12_illMany_33 ?_
        obtain ⟨hq, h⟩ := h
        refine j_iald dX12_illMany_34 (h3 1 (by decide)) rfl hq ?_
        refine j_iconst (v := 1) dX12_illMany_35 (by decide) ?_
        refine j_icmp_ne (tgt := 43) dX12_illMany_36 (by decide) (fun hc => ?_) (fun hc => ?_)
        · replace h := h.1 hc
          refine j_iconst (v := 0) dX12_illMany_43 (by decide) ?_
          refine j_sub [0, 2] rfl ?_
          exact k_X12_illMany_p44 h3 zih _ _ _ _ _ h
        · replace h := h.2 hc
          refine j_iconst (v := 1) dX12_illMany_39 (by decide) ?_
          refine j_goto (tgt := 44) dX12_illMany_40 (by decide) ?_
          refine j_sub [0, 2] rfl ?_
          exact k_X12_illMany_p44 h3 zih _ _ _ _ _ h
def w_X12_illMany (M : am_I) (N : am_N) (post : Int32 → am_I → am_N → Prop) : Prop :=
  ∃ n, w_X12_illMany_p4 post n 0 0 M N
set_option maxRecDepth 10000 in
theorem k_X12_illMany {d : Nat} {dm : List am_C} (h3 : am_d3 dm) {M : am_I} {N : am_N} {post : Int32 → am_I → am_N → Prop} (h : w_X12_illMany M N post) : jg (d + 2) mX12_illMany dm 0 [(0, .inr (.inr (3, 0, 0)))] [] M N (am_pi post) := by
  refine j_iconst (v := 0) dX12_illMany_0 (by decide) ?_
  refine j_istore_n dX12_illMany_1 (by decide) rfl ?_
  refine j_iconst (v := 0) dX12_illMany_2 (by decide) ?_
  refine j_istore_n dX12_illMany_3 (by decide) rfl ?_
  refine j_sub [2, 1, 0] rfl ?_
  obtain ⟨n, h⟩ := h
  exact k_X12_illMany_p4 h3 n _ _ _ _ h
def w_X12_spot_p28_b (post : Int32 → am_I → am_N → Prop) (zk28 : Int32 → Int32 → Int32 → am_I → am_N → Prop) (l1 : Int32) (l3 : Int32) (l4 : Int32) (M : am_I) (N : am_N) : Prop :=
  ((64 ≤ l4 → post (-1) M N) ∧ (¬ 64 ≤ l4 → w_X12_isSpot l4 l1 M N (fun zr1 zM2 zN3 => ((¬ zr1 = 0 → ((¬ l3 = 0 → zk28 l1 (l3 + (-1)) (l4 + 1) zM2 zN3) ∧ (l3 = 0 → post l4 zM2 zN3))) ∧ (zr1 = 0 → zk28 l1 l3 (l4 + 1) zM2 zN3)))))
noncomputable def w_X12_spot_p28 (post : Int32 → am_I → am_N → Prop) (n : Nat) : Int32 → Int32 → Int32 → am_I → am_N → Prop :=
  Nat.rec (motive := fun _ => Int32 → Int32 → Int32 → am_I → am_N → Prop) (fun _ _ _ _ _ => False) (fun _ zk => w_X12_spot_p28_b post zk) n
theorem w_X12_spot_p28_s (post : Int32 → am_I → am_N → Prop) (n : Nat) (l1 : Int32) (l3 : Int32) (l4 : Int32) (M : am_I) (N : am_N) : w_X12_spot_p28 post (n + 1) l1 l3 l4 M N = w_X12_spot_p28_b post (w_X12_spot_p28 post n) l1 l3 l4 M N := rfl
set_option maxRecDepth 10000 in
theorem k_X12_spot_p28 {d : Nat} {dm : List am_C} (h3 : am_d3 dm) {post : Int32 → am_I → am_N → Prop} : ∀ (n : Nat) (l1 : Int32) (l3 : Int32) (l4 : Int32) (M : am_I) (N : am_N), w_X12_spot_p28 post n l1 l3 l4 M N → jg (d + 4) mX12_spot dm 28 [(0, .inr (.inr (3, 0, 0))), (1, .inl l1), (3, .inl l3), (4, .inl l4)] [] M N (am_pi post) := by
  intro n
  induction n with
  | zero => intro l1 l3 l4 M N h; exact h.elim
  | succ n zih =>
    intro l1 l3 l4 M N h
    replace h : w_X12_spot_p28_b post (w_X12_spot_p28 post n) l1 l3 l4 M N := h
    refine j_iload 3 dX12_spot_28 rfl ?_
    refine j_bipush (v := 64) dX12_spot_30 (by decide) ?_
    refine j_icmp_ge (tgt := 64) dX12_spot_32 (by decide) (fun hc => ?_) (fun hc => ?_)
    · replace h := h.1 hc
      refine j_iconst (v := (-1)) dX12_spot_64 (by decide) ?_
      exact j_iret dX12_spot_65 rfl ⟨_, rfl, h⟩
    · replace h := h.2 hc
      refine j_aload_n 0 dX12_spot_35 rfl ?_
      refine j_iload 3 dX12_spot_36 rfl ?_
      refine j_iload_n 1 dX12_spot_38 rfl ?_
      refine j_invV (As := [.inl l4, .inl l1]) dX12_spot_39 msRX12_338 mbX12_isSpot rfl rfl (Nat.le_of_ble_eq_true rfl) (Nat.le_of_ble_eq_true rfl) (by omega) (h3 0 (by decide)) rfl rfl (k_X12_isSpot (d := d + 0) h3 h) ?_
      rintro _ zM2 zN3 ⟨zr1, rfl, h⟩
      refine j_if_ne (tgt := 48) dX12_spot_42 (by decide) (fun hc => ?_) (fun hc => ?_)
      · replace h := h.1 hc
        refine j_iload_n 2 dX12_spot_48 rfl ?_
        refine j_if_ne (tgt := 55) dX12_spot_49 (by decide) (fun hc => ?_) (fun hc => ?_)
        · replace h := h.1 hc
          refine j_iinc 2 dX12_spot_55 rfl rfl (by decide) rfl ?_
          refine j_iinc 3 dX12_spot_58 rfl rfl (by decide) rfl ?_
          refine j_goto (tgt := 28) dX12_spot_61 (by decide) ?_
          refine j_sub [2, 3, 1, 0] rfl ?_
          exact zih _ _ _ _ _ h
        · replace h := h.2 hc
          refine j_iload 3 dX12_spot_52 rfl ?_
          exact j_iret dX12_spot_54 rfl ⟨_, rfl, h⟩
      · replace h := h.2 hc
        refine j_goto (tgt := 58) dX12_spot_45 (by decide) ?_
        refine j_iinc 3 dX12_spot_58 rfl rfl (by decide) rfl ?_
        refine j_goto (tgt := 28) dX12_spot_61 (by decide) ?_
        refine j_sub [1, 2, 3, 0] rfl ?_
        exact zih _ _ _ _ _ h
def w_X12_spot (a1 : Int32) (a2 : Int32) (M : am_I) (N : am_N) (post : Int32 → am_I → am_N → Prop) : Prop :=
  w_X12_isIn a1 0 64 M N (fun zr1 zM2 zN3 => ((zr1 = 0 → post (-1) zM2 zN3) ∧ (¬ zr1 = 0 → ((a2 < 0 → post (-1) zM2 zN3) ∧ (¬ a2 < 0 → w_X12_illMany zM2 zN3 (fun zr4 zM5 zN6 => ((¬ zr4 = 0 → ∃ n, w_X12_spot_p28 post n a1 a2 0 zM5 zN6) ∧ (zr4 = 0 → post (-1) zM5 zN6))))))))
set_option maxRecDepth 10000 in
theorem k_X12_spot {d : Nat} {dm : List am_C} (h3 : am_d3 dm) {a1 : Int32} {a2 : Int32} {M : am_I} {N : am_N} {post : Int32 → am_I → am_N → Prop} (h : w_X12_spot a1 a2 M N post) : jg (d + 4) mX12_spot dm 0 [(0, .inr (.inr (3, 0, 0))), (1, .inl a1), (2, .inl a2)] [] M N (am_pi post) := by
  refine j_iload_n 1 dX12_spot_0 rfl ?_
  refine j_iconst (v := 0) dX12_spot_1 (by decide) ?_
  refine j_bipush (v := 64) dX12_spot_2 (by decide) ?_
  refine j_invS (As := [.inl a1, .inl 0, .inl 64]) dX12_spot_4 msRX12_162 mbX12_isIn rfl rfl (Nat.le_of_ble_eq_true rfl) (Nat.le_of_ble_eq_true rfl) (by omega) (k_X12_isIn (d := d + 2)  h) ?_
  rintro _ zM2 zN3 ⟨zr1, rfl, h⟩
  refine j_if_eq (tgt := 21) dX12_spot_7 (by decide) (fun hc => ?_) (fun hc => ?_)
  · replace h := h.1 hc
    refine j_iconst (v := (-1)) dX12_spot_21 (by decide) ?_
    exact j_iret dX12_spot_22 rfl ⟨_, rfl, h⟩
  · replace h := h.2 hc
    refine j_iload_n 2 dX12_spot_10 rfl ?_
    refine j_if_lt (tgt := 21) dX12_spot_11 (by decide) (fun hc => ?_) (fun hc => ?_)
    · replace h := h.1 hc
      refine j_iconst (v := (-1)) dX12_spot_21 (by decide) ?_
      exact j_iret dX12_spot_22 rfl ⟨_, rfl, h⟩
    · replace h := h.2 hc
      refine j_aload_n 0 dX12_spot_14 rfl ?_
      refine j_invV (As := []) dX12_spot_15 msRX12_334 mbX12_illMany rfl rfl (Nat.le_of_ble_eq_true rfl) (Nat.le_of_ble_eq_true rfl) (by omega) (h3 0 (by decide)) rfl rfl (k_X12_illMany (d := d + 1) h3 h) ?_
      rintro _ zM5 zN6 ⟨zr4, rfl, h⟩
      refine j_if_ne (tgt := 23) dX12_spot_18 (by decide) (fun hc => ?_) (fun hc => ?_)
      · replace h := h.1 hc
        refine j_iload_n 2 dX12_spot_23 rfl ?_
        refine j_istore_n dX12_spot_24 (by decide) rfl ?_
        refine j_iconst (v := 0) dX12_spot_25 (by decide) ?_
        refine j_istore dX12_spot_26 (by decide) rfl ?_
        refine j_sub [2, 3, 1, 0] rfl ?_
        obtain ⟨n, h⟩ := h
        exact k_X12_spot_p28 h3 n _ _ _ _ _ h
      · replace h := h.2 hc
        refine j_iconst (v := (-1)) dX12_spot_21 (by decide) ?_
        exact j_iret dX12_spot_22 rfl ⟨_, rfl, h⟩
def w_X12_finds_p56_b (post : am_I → am_N → Prop) (zk7 : Int32 → am_I → am_N → Prop) (zk56 : Int32 → Int32 → Int32 → am_I → am_N → Prop) (l1 : Int32) (l2 : Int32) (l3 : Int32) (M : am_I) (N : am_N) : Prop :=
  ((4 ≤ l3 → ((¬ l2 = 0 → vp_in (M (3, 0, 0) 40) 8 ∧ zk7 (l1 + 1) (am_u (am_u M (3, 0, 31) (M (3, 0, 0) 40).toNatClampNeg l1) (3, 0, 0) 40 (((am_u M (3, 0, 31) (M (3, 0, 0) 40).toNatClampNeg l1) (3, 0, 0) 40) + 1)) N) ∧ (l2 = 0 → zk7 (l1 + 1) M N))) ∧ (¬ 4 ≤ l3 → ((¬ l2 = 0 → zk56 l1 1 (l3 + 1) M N) ∧ (l2 = 0 → w_X12_beside l1 l3 M N (fun zr1 zM2 zN3 => ((zr1 = (-1) → zk56 l1 0 (l3 + 1) zM2 zN3) ∧ (¬ zr1 = (-1) → w_X12_beside l1 l3 zM2 zN3 (fun zr4 zM5 zN6 => vp_in (192 + zr4) 1635 ∧ ((¬ (zM5 (3, 0, 1) (192 + zr4).toNatClampNeg) = 1 → zk56 l1 0 (l3 + 1) zM5 zN6) ∧ ((zM5 (3, 0, 1) (192 + zr4).toNatClampNeg) = 1 → w_X12_beside l1 l3 zM5 zN6 (fun zr7 zM8 zN9 => vp_in (320 + zr7) 1635 ∧ ((¬ (zM8 (3, 0, 1) (320 + zr7).toNatClampNeg) = 1 → zk56 l1 0 (l3 + 1) zM8 zN9) ∧ ((zM8 (3, 0, 1) (320 + zr7).toNatClampNeg) = 1 → zk56 l1 1 (l3 + 1) zM8 zN9)))))))))))))
noncomputable def w_X12_finds_p56 (post : am_I → am_N → Prop) (zk7 : Int32 → am_I → am_N → Prop) (n : Nat) : Int32 → Int32 → Int32 → am_I → am_N → Prop :=
  Nat.rec (motive := fun _ => Int32 → Int32 → Int32 → am_I → am_N → Prop) (fun _ _ _ _ _ => False) (fun _ zk => w_X12_finds_p56_b post zk7 zk) n
theorem w_X12_finds_p56_s (post : am_I → am_N → Prop) (zk7 : Int32 → am_I → am_N → Prop) (n : Nat) (l1 : Int32) (l2 : Int32) (l3 : Int32) (M : am_I) (N : am_N) : w_X12_finds_p56 post zk7 (n + 1) l1 l2 l3 M N = w_X12_finds_p56_b post zk7 (w_X12_finds_p56 post zk7 n) l1 l2 l3 M N := rfl
set_option maxRecDepth 10000 in
theorem k_X12_finds_p56 {d : Nat} {dm : List am_C} (h3 : am_d3 dm) {post : am_I → am_N → Prop} {zk7 : Int32 → am_I → am_N → Prop} (zhk7 : ∀ (l1 : Int32) (M : am_I) (N : am_N), zk7 l1 M N → jg (d + 2) mX12_finds dm 7 [(0, .inr (.inr (3, 0, 0))), (1, .inl l1)] [] M N (am_pv post)) : ∀ (n : Nat) (l1 : Int32) (l2 : Int32) (l3 : Int32) (M : am_I) (N : am_N), w_X12_finds_p56 post zk7 n l1 l2 l3 M N → jg (d + 2) mX12_finds dm 56 [(0, .inr (.inr (3, 0, 0))), (1, .inl l1), (2, .inl l2), (3, .inl l3)] [] M N (am_pv post) := by
  intro n
  induction n with
  | zero => intro l1 l2 l3 M N h; exact h.elim
  | succ n zih =>
    intro l1 l2 l3 M N h
    replace h : w_X12_finds_p56_b post zk7 (w_X12_finds_p56 post zk7 n) l1 l2 l3 M N := h
    refine j_iload_n 3 dX12_finds_56 rfl ?_
    refine j_iconst (v := 4) dX12_finds_57 (by decide) ?_
    refine j_icmp_ge (tgt := 122) dX12_finds_58 (by decide) (fun hc => ?_) (fun hc => ?_)
    · replace h := h.1 hc
      refine j_iload_n 2 dX12_finds_122 rfl ?_
      refine j_if_ne (tgt := 129) dX12_finds_123 (by decide) (fun hc => ?_) (fun hc => ?_)
      · replace h := h.1 hc
        refine j_aload_n 0 dX12_finds_129 rfl ?_
        refine j_getR (b := (3, 0, 31)) dX12_finds_130 fsRX12_106 (h3 0 (by decide)) rfl rfl ?_
        refine j_aload_n 0 dX12_finds_133 rfl ?_
        refine j_getI dX12_finds_134 fsRX12_341 (h3 0 (by decide)) rfl ?_
        refine j_iload_n 1 dX12_finds_137 rfl ?_
        obtain ⟨hq, h⟩ := h
        refine j_iast dX12_finds_138 (h3 31 (by decide)) rfl hq ?_
        refine j_aload_n 0 dX12_finds_139 rfl ?_
        refine j_dup dX12_finds_140 rfl ?_
        refine j_getI dX12_finds_141 fsRX12_341 (h3 0 (by decide)) rfl ?_
        refine j_iconst (v := 1) dX12_finds_144 (by decide) ?_
        refine j_iadd dX12_finds_145 ?_
        refine j_putI dX12_finds_146 fwRX12_341 (h3 0 (by decide)) rfl ?_
        refine j_iinc 1 dX12_finds_149 rfl rfl (by decide) rfl ?_
        refine j_goto (tgt := 7) dX12_finds_152 (by decide) ?_
        refine j_sub [1, 0] rfl ?_
        exact zhk7 _ _ _ h
      · replace h := h.2 hc
        refine j_goto (tgt := 149) dX12_finds_126 (by decide) ?_
        refine j_iinc 1 dX12_finds_149 rfl rfl (by decide) rfl ?_
        refine j_goto (tgt := 7) dX12_finds_152 (by decide) ?_
        refine j_sub [1, 0] rfl ?_
        exact zhk7 _ _ _ h
    · replace h := h.2 hc
      refine j_iload_n 2 dX12_finds_61 rfl ?_
      refine j_if_ne (tgt := 110) dX12_finds_62 (by decide) (fun hc => ?_) (fun hc => ?_)
      · replace h := h.1 hc
        refine j_iconst (v := 1) dX12_finds_110 (by decide) ?_
        refine j_goto (tgt := 115) dX12_finds_111 (by decide) ?_
        refine j_istore_n dX12_finds_115 (by decide) rfl ?_
        refine j_iinc 3 dX12_finds_116 rfl rfl (by decide) rfl ?_
        refine j_goto (tgt := 56) dX12_finds_119 (by decide) ?_
        refine j_sub [2, 3, 1, 0] rfl ?_
        exact zih _ _ _ _ _ h
      · replace h := h.2 hc
        refine j_iload_n 1 dX12_finds_65 rfl ?_
        refine j_iload_n 3 dX12_finds_66 rfl ?_
        refine j_invS (As := [.inl l1, .inl l3]) dX12_finds_67 msRX12_257 mbX12_beside rfl rfl (Nat.le_of_ble_eq_true rfl) (Nat.le_of_ble_eq_true rfl) (by omega) (k_X12_beside (d := d + 0)  h) ?_
        rintro _ zM2 zN3 ⟨zr1, rfl, h⟩
        refine j_iconst (v := (-1)) dX12_finds_70 (by decide) ?_
        refine j_icmp_eq (tgt := 114) dX12_finds_71 (by decide) (fun hc => ?_) (fun hc => ?_)
        · replace h := h.1 hc
          refine j_iconst (v := 0) dX12_finds_114 (by decide) ?_
          refine j_istore_n dX12_finds_115 (by decide) rfl ?_
          refine j_iinc 3 dX12_finds_116 rfl rfl (by decide) rfl ?_
          refine j_goto (tgt := 56) dX12_finds_119 (by decide) ?_
          refine j_sub [2, 3, 1, 0] rfl ?_
          exact zih _ _ _ _ _ h
        · replace h := h.2 hc
          refine j_aload_n 0 dX12_finds_74 rfl ?_
          refine j_getR (b := (3, 0, 1)) dX12_finds_75 fsRX12_7 (h3 0 (by decide)) rfl rfl ?_
          refine j_sipush (v := 192) dX12_finds_78 (by decide) ?_
          refine j_iload_n 1 dX12_finds_81 rfl ?_
          refine j_iload_n 3 dX12_finds_82 rfl ?_
          refine j_invS (As := [.inl l1, .inl l3]) dX12_finds_83 msRX12_257 mbX12_beside rfl rfl (Nat.le_of_ble_eq_true rfl) (Nat.le_of_ble_eq_true rfl) (by omega) (k_X12_beside (d := d + 0)  h) ?_
          rintro _ zM5 zN6 ⟨zr4, rfl, h⟩
          refine j_iadd dX12_finds_86 ?_
          obtain ⟨hq, h⟩ := h
          refine j_iald dX12_finds_87 (h3 1 (by decide)) rfl hq ?_
          refine j_iconst (v := 1) dX12_finds_88 (by decide) ?_
          refine j_icmp_ne (tgt := 114) dX12_finds_89 (by decide) (fun hc => ?_) (fun hc => ?_)
          · replace h := h.1 hc
            refine j_iconst (v := 0) dX12_finds_114 (by decide) ?_
            refine j_istore_n dX12_finds_115 (by decide) rfl ?_
            refine j_iinc 3 dX12_finds_116 rfl rfl (by decide) rfl ?_
            refine j_goto (tgt := 56) dX12_finds_119 (by decide) ?_
            refine j_sub [2, 3, 1, 0] rfl ?_
            exact zih _ _ _ _ _ h
          · replace h := h.2 hc
            refine j_aload_n 0 dX12_finds_92 rfl ?_
            refine j_getR (b := (3, 0, 1)) dX12_finds_93 fsRX12_7 (h3 0 (by decide)) rfl rfl ?_
            refine j_sipush (v := 320) dX12_finds_96 (by decide) ?_
            refine j_iload_n 1 dX12_finds_99 rfl ?_
            refine j_iload_n 3 dX12_finds_100 rfl ?_
            refine j_invS (As := [.inl l1, .inl l3]) dX12_finds_101 msRX12_257 mbX12_beside rfl rfl (Nat.le_of_ble_eq_true rfl) (Nat.le_of_ble_eq_true rfl) (by omega) (k_X12_beside (d := d + 0)  h) ?_
            rintro _ zM8 zN9 ⟨zr7, rfl, h⟩
            refine j_iadd dX12_finds_104 ?_
            obtain ⟨hq, h⟩ := h
            refine j_iald dX12_finds_105 (h3 1 (by decide)) rfl hq ?_
            refine j_iconst (v := 1) dX12_finds_106 (by decide) ?_
            refine j_icmp_ne (tgt := 114) dX12_finds_107 (by decide) (fun hc => ?_) (fun hc => ?_)
            · replace h := h.1 hc
              refine j_iconst (v := 0) dX12_finds_114 (by decide) ?_
              refine j_istore_n dX12_finds_115 (by decide) rfl ?_
              refine j_iinc 3 dX12_finds_116 rfl rfl (by decide) rfl ?_
              refine j_goto (tgt := 56) dX12_finds_119 (by decide) ?_
              refine j_sub [2, 3, 1, 0] rfl ?_
              exact zih _ _ _ _ _ h
            · replace h := h.2 hc
              refine j_iconst (v := 1) dX12_finds_110 (by decide) ?_
              refine j_goto (tgt := 115) dX12_finds_111 (by decide) ?_
              refine j_istore_n dX12_finds_115 (by decide) rfl ?_
              refine j_iinc 3 dX12_finds_116 rfl rfl (by decide) rfl ?_
              refine j_goto (tgt := 56) dX12_finds_119 (by decide) ?_
              refine j_sub [2, 3, 1, 0] rfl ?_
              exact zih _ _ _ _ _ h
def w_X12_finds_p7_b (post : am_I → am_N → Prop) (zk7 : Int32 → am_I → am_N → Prop) (l1 : Int32) (M : am_I) (N : am_N) : Prop :=
  ((64 ≤ l1 → post M N) ∧ (¬ 64 ≤ l1 → ((8 ≤ (M (3, 0, 0) 40) → post M N) ∧ (¬ 8 ≤ (M (3, 0, 0) 40) → vp_in (192 + l1) 1635 ∧ (((M (3, 0, 1) (192 + l1).toNatClampNeg) = 0 → zk7 (l1 + 1) M N) ∧ (¬ (M (3, 0, 1) (192 + l1).toNatClampNeg) = 0 → vp_in (320 + l1) 1635 ∧ ((¬ (M (3, 0, 1) (320 + l1).toNatClampNeg) = 1 → ∃ n, w_X12_finds_p56 post zk7 n l1 0 0 M N) ∧ ((M (3, 0, 1) (320 + l1).toNatClampNeg) = 1 → zk7 (l1 + 1) M N))))))))
noncomputable def w_X12_finds_p7 (post : am_I → am_N → Prop) (n : Nat) : Int32 → am_I → am_N → Prop :=
  Nat.rec (motive := fun _ => Int32 → am_I → am_N → Prop) (fun _ _ _ => False) (fun _ zk => w_X12_finds_p7_b post zk) n
theorem w_X12_finds_p7_s (post : am_I → am_N → Prop) (n : Nat) (l1 : Int32) (M : am_I) (N : am_N) : w_X12_finds_p7 post (n + 1) l1 M N = w_X12_finds_p7_b post (w_X12_finds_p7 post n) l1 M N := rfl
set_option maxRecDepth 10000 in
theorem k_X12_finds_p7 {d : Nat} {dm : List am_C} (h3 : am_d3 dm) {post : am_I → am_N → Prop} : ∀ (n : Nat) (l1 : Int32) (M : am_I) (N : am_N), w_X12_finds_p7 post n l1 M N → jg (d + 2) mX12_finds dm 7 [(0, .inr (.inr (3, 0, 0))), (1, .inl l1)] [] M N (am_pv post) := by
  intro n
  induction n with
  | zero => intro l1 M N h; exact h.elim
  | succ n zih =>
    intro l1 M N h
    replace h : w_X12_finds_p7_b post (w_X12_finds_p7 post n) l1 M N := h
    refine j_iload_n 1 dX12_finds_7 rfl ?_
    refine j_bipush (v := 64) dX12_finds_8 (by decide) ?_
    refine j_icmp_ge (tgt := 155) dX12_finds_10 (by decide) (fun hc => ?_) (fun hc => ?_)
    · replace h := h.1 hc
      exact j_vret dX12_finds_155 rfl ⟨rfl, h⟩
    · replace h := h.2 hc
      refine j_aload_n 0 dX12_finds_13 rfl ?_
      refine j_getI dX12_finds_14 fsRX12_341 (h3 0 (by decide)) rfl ?_
      refine j_bipush (v := 8) dX12_finds_17 (by decide) ?_
      refine j_icmp_ge (tgt := 155) dX12_finds_19 (by decide) (fun hc => ?_) (fun hc => ?_)
      · replace h := h.1 hc
        exact j_vret dX12_finds_155 rfl ⟨rfl, h⟩
      · replace h := h.2 hc
        refine j_aload_n 0 dX12_finds_22 rfl ?_
        refine j_getR (b := (3, 0, 1)) dX12_finds_23 fsRX12_7 (h3 0 (by decide)) rfl rfl ?_
        refine j_sipush (v := 192) dX12_finds_26 (by decide) ?_
        refine j_iload_n 1 dX12_finds_29 rfl ?_
        refine j_iadd dX12_finds_30 ?_
        obtain ⟨hq, h⟩ := h
        refine j_iald dX12_finds_31 (h3 1 (by decide)) rfl hq ?_
        refine j_if_eq (tgt := 149) dX12_finds_32 (by decide) (fun hc => ?_) (fun hc => ?_)
        · replace h := h.1 hc
          refine j_iinc 1 dX12_finds_149 rfl rfl (by decide) rfl ?_
          refine j_goto (tgt := 7) dX12_finds_152 (by decide) ?_
          refine j_sub [1, 0] rfl ?_
          exact zih _ _ _ h
        · replace h := h.2 hc
          refine j_aload_n 0 dX12_finds_35 rfl ?_
          refine j_getR (b := (3, 0, 1)) dX12_finds_36 fsRX12_7 (h3 0 (by decide)) rfl rfl ?_
          refine j_sipush (v := 320) dX12_finds_39 (by decide) ?_
          refine j_iload_n 1 dX12_finds_42 rfl ?_
          refine j_iadd dX12_finds_43 ?_
          obtain ⟨hq, h⟩ := h
          refine j_iald dX12_finds_44 (h3 1 (by decide)) rfl hq ?_
          refine j_iconst (v := 1) dX12_finds_45 (by decide) ?_
          refine j_icmp_ne (tgt := 52) dX12_finds_46 (by decide) (fun hc => ?_) (fun hc => ?_)
          · replace h := h.1 hc
            refine j_iconst (v := 0) dX12_finds_52 (by decide) ?_
            refine j_istore_n dX12_finds_53 (by decide) rfl ?_
            refine j_iconst (v := 0) dX12_finds_54 (by decide) ?_
            refine j_istore_n dX12_finds_55 (by decide) rfl ?_
            refine j_sub [2, 3, 1, 0] rfl ?_
            obtain ⟨n, h⟩ := h
            exact k_X12_finds_p56 h3 zih n _ _ _ _ _ h
          · replace h := h.2 hc
            refine j_goto (tgt := 149) dX12_finds_49 (by decide) ?_
            refine j_iinc 1 dX12_finds_149 rfl rfl (by decide) rfl ?_
            refine j_goto (tgt := 7) dX12_finds_152 (by decide) ?_
            refine j_sub [1, 0] rfl ?_
            exact zih _ _ _ h
def w_X12_finds (M : am_I) (N : am_N) (post : am_I → am_N → Prop) : Prop :=
  ∃ n, w_X12_finds_p7 post n 0 (am_u M (3, 0, 0) 40 0) N
set_option maxRecDepth 10000 in
theorem k_X12_finds {d : Nat} {dm : List am_C} (h3 : am_d3 dm) {M : am_I} {N : am_N} {post : am_I → am_N → Prop} (h : w_X12_finds M N post) : jg (d + 2) mX12_finds dm 0 [(0, .inr (.inr (3, 0, 0)))] [] M N (am_pv post) := by
  refine j_aload_n 0 dX12_finds_0 rfl ?_
  refine j_iconst (v := 0) dX12_finds_1 (by decide) ?_
  refine j_putI dX12_finds_2 fwRX12_341 (h3 0 (by decide)) rfl ?_
  refine j_iconst (v := 0) dX12_finds_5 (by decide) ?_
  refine j_istore_n dX12_finds_6 (by decide) rfl ?_
  refine j_sub [1, 0] rfl ?_
  obtain ⟨n, h⟩ := h
  exact k_X12_finds_p7 h3 n _ _ _ h
def w_X12_reached_p135 (post : Int32 → am_I → am_N → Prop) (zk111 : Int32 → Int32 → am_I → am_N → Prop) (l4 : Int32) (s0 : Int32) (s1 : Int32) (M : am_I) (N : am_N) : Prop :=
  w_X12_one s0 M N (fun zr1 zM2 zN3 => zk111 (s1 + zr1) (l4 + 1) zM2 zN3)
set_option maxRecDepth 10000 in
theorem k_X12_reached_p135 {d : Nat} {dm : List am_C} (h3 : am_d3 dm) {post : Int32 → am_I → am_N → Prop} {zk111 : Int32 → Int32 → am_I → am_N → Prop} (zhk111 : ∀ (l3 : Int32) (l4 : Int32) (M : am_I) (N : am_N), zk111 l3 l4 M N → jg (d + 3) mX12_reached dm 111 [(0, .inr (.inr (3, 0, 0))), (3, .inl l3), (4, .inl l4)] [] M N (am_pi post)) (l4 : Int32) (s0 : Int32) (s1 : Int32) (M : am_I) (N : am_N) (h : w_X12_reached_p135 post zk111 l4 s0 s1 M N) : jg (d + 3) mX12_reached dm 135 [(0, .inr (.inr (3, 0, 0))), (4, .inl l4)] [.inl s0, .inl s1] M N (am_pi post) := by
  refine j_invS (As := [.inl s0]) dX12_reached_135 msRX12_231 mbX12_one rfl rfl (Nat.le_of_ble_eq_true rfl) (Nat.le_of_ble_eq_true rfl) (by omega) (k_X12_one (d := d + 1)  h) ?_
  rintro _ zM2 zN3 ⟨zr1, rfl, h⟩
  refine j_iadd dX12_reached_138 ?_
  refine j_istore_n dX12_reached_139 (by decide) rfl ?_
  refine j_iinc 2 dX12_reached_140 rfl rfl (by decide) rfl ?_
  refine j_goto (tgt := 111) dX12_reached_143 (by decide) ?_
  refine j_sub [2, 1, 0] rfl ?_
  exact zhk111 _ _ _ _ h
def w_X12_reached_p111_b (post : Int32 → am_I → am_N → Prop) (zk111 : Int32 → Int32 → am_I → am_N → Prop) (l3 : Int32) (l4 : Int32) (M : am_I) (N : am_N) : Prop :=
  ((64 ≤ l4 → post l3 M N) ∧ (¬ 64 ≤ l4 → vp_in l4 64 ∧ (((M (3, 0, 29) l4.toNatClampNeg) = (-1) → w_X12_reached_p135 post zk111 l4 0 l3 M N) ∧ (¬ (M (3, 0, 29) l4.toNatClampNeg) = (-1) → w_X12_reached_p135 post zk111 l4 1 l3 M N))))
noncomputable def w_X12_reached_p111 (post : Int32 → am_I → am_N → Prop) (n : Nat) : Int32 → Int32 → am_I → am_N → Prop :=
  Nat.rec (motive := fun _ => Int32 → Int32 → am_I → am_N → Prop) (fun _ _ _ _ => False) (fun _ zk => w_X12_reached_p111_b post zk) n
theorem w_X12_reached_p111_s (post : Int32 → am_I → am_N → Prop) (n : Nat) (l3 : Int32) (l4 : Int32) (M : am_I) (N : am_N) : w_X12_reached_p111 post (n + 1) l3 l4 M N = w_X12_reached_p111_b post (w_X12_reached_p111 post n) l3 l4 M N := rfl
set_option maxRecDepth 10000 in
theorem k_X12_reached_p111 {d : Nat} {dm : List am_C} (h3 : am_d3 dm) {post : Int32 → am_I → am_N → Prop} : ∀ (n : Nat) (l3 : Int32) (l4 : Int32) (M : am_I) (N : am_N), w_X12_reached_p111 post n l3 l4 M N → jg (d + 3) mX12_reached dm 111 [(0, .inr (.inr (3, 0, 0))), (3, .inl l3), (4, .inl l4)] [] M N (am_pi post) := by
  intro n
  induction n with
  | zero => intro l3 l4 M N h; exact h.elim
  | succ n zih =>
    intro l3 l4 M N h
    replace h : w_X12_reached_p111_b post (w_X12_reached_p111 post n) l3 l4 M N := h
    refine j_iload 2 dX12_reached_111 rfl ?_
    refine j_bipush (v := 64) dX12_reached_113 (by decide) ?_
    refine j_icmp_ge (tgt := 146) dX12_reached_115 (by decide) (fun hc => ?_) (fun hc => ?_)
    · replace h := h.1 hc
      refine j_iload_n 1 dX12_reached_146 rfl ?_
      exact j_iret dX12_reached_147 rfl ⟨_, rfl, h⟩
    · replace h := h.2 hc
      refine j_iload_n 1 dX12_reached_118 rfl ?_
      refine j_aload_n 0 dX12_reached_119 rfl ?_
      refine j_getR (b := (3, 0, 29)) dX12_reached_120 fsRX12_100 (h3 0 (by decide)) rfl rfl ?_
      refine j_iload 2 dX12_reached_123 rfl ?_
      obtain ⟨hq, h⟩ := h
      refine j_iald dX12_reached_125 (h3 29 (by decide)) rfl hq ?_
      refine j_iconst (v := (-1)) dX12_reached_126 (by decide) ?_
      refine j_icmp_eq (tgt := 134) dX12_reached_127 (by decide) (fun hc => ?_) (fun hc => ?_)
      · replace h := h.1 hc
        refine j_iconst (v := 0) dX12_reached_134 (by decide) ?_
        refine j_sub [0, 2] rfl ?_
        exact k_X12_reached_p135 h3 zih _ _ _ _ _ h
      · replace h := h.2 hc
        refine j_iconst (v := 1) dX12_reached_130 (by decide) ?_
        refine j_goto (tgt := 135) dX12_reached_131 (by decide) ?_
        refine j_sub [0, 2] rfl ?_
        exact k_X12_reached_p135 h3 zih _ _ _ _ _ h
def w_X12_reached_p62_b (post : Int32 → am_I → am_N → Prop) (zk62 : Int32 → Int32 → Int32 → am_I → am_N → Prop) (l1 : Int32) (l2 : Int32) (l3 : Int32) (M : am_I) (N : am_N) : Prop :=
  (((M (3, 0, 0) 40) ≤ l3 → w_X12_spreads l2 M N (fun zM1 zN2 => ∃ n, w_X12_reached_p111 post n 0 0 zM1 zN2)) ∧ (¬ (M (3, 0, 0) 40) ≤ l3 → ((¬ ((l1 >>> (l3 &&& 31)) &&& 1) = 1 → zk62 l1 l2 (l3 + 1) M N) ∧ (((l1 >>> (l3 &&& 31)) &&& 1) = 1 → vp_in l3 8 ∧ vp_in (M (3, 0, 31) l3.toNatClampNeg) 64 ∧ zk62 l1 l2 (l3 + 1) (am_u M (3, 0, 30) (M (3, 0, 31) l3.toNatClampNeg).toNatClampNeg (vp_nar .boolean 1)) N))))
noncomputable def w_X12_reached_p62 (post : Int32 → am_I → am_N → Prop) (n : Nat) : Int32 → Int32 → Int32 → am_I → am_N → Prop :=
  Nat.rec (motive := fun _ => Int32 → Int32 → Int32 → am_I → am_N → Prop) (fun _ _ _ _ _ => False) (fun _ zk => w_X12_reached_p62_b post zk) n
theorem w_X12_reached_p62_s (post : Int32 → am_I → am_N → Prop) (n : Nat) (l1 : Int32) (l2 : Int32) (l3 : Int32) (M : am_I) (N : am_N) : w_X12_reached_p62 post (n + 1) l1 l2 l3 M N = w_X12_reached_p62_b post (w_X12_reached_p62 post n) l1 l2 l3 M N := rfl
set_option maxRecDepth 10000 in
theorem k_X12_reached_p62 {d : Nat} {dm : List am_C} (h3 : am_d3 dm) {post : Int32 → am_I → am_N → Prop} : ∀ (n : Nat) (l1 : Int32) (l2 : Int32) (l3 : Int32) (M : am_I) (N : am_N), w_X12_reached_p62 post n l1 l2 l3 M N → jg (d + 3) mX12_reached dm 62 [(0, .inr (.inr (3, 0, 0))), (1, .inl l1), (2, .inl l2), (3, .inl l3)] [] M N (am_pi post) := by
  intro n
  induction n with
  | zero => intro l1 l2 l3 M N h; exact h.elim
  | succ n zih =>
    intro l1 l2 l3 M N h
    replace h : w_X12_reached_p62_b post (w_X12_reached_p62 post n) l1 l2 l3 M N := h
    refine j_iload_n 3 dX12_reached_62 rfl ?_
    refine j_aload_n 0 dX12_reached_63 rfl ?_
    refine j_getI dX12_reached_64 fsRX12_341 (h3 0 (by decide)) rfl ?_
    refine j_icmp_ge (tgt := 97) dX12_reached_67 (by decide) (fun hc => ?_) (fun hc => ?_)
    · replace h := h.1 hc
      refine j_aload_n 0 dX12_reached_97 rfl ?_
      refine j_iload_n 2 dX12_reached_98 rfl ?_
      refine j_aload_n 0 dX12_reached_99 rfl ?_
      refine j_getR (b := (3, 0, 30)) dX12_reached_100 fsRX12_103 (h3 0 (by decide)) rfl rfl ?_
      refine j_invV (As := [.inl l2, .inr (.inr (3, 0, 30))]) dX12_reached_103 msRX12_330 mbX12_spreads rfl rfl (Nat.le_of_ble_eq_true rfl) (Nat.le_of_ble_eq_true rfl) (by omega) (h3 0 (by decide)) rfl rfl (k_X12_spreads (d := d + 0) h3 h) ?_
      rintro _ zM1 zN2 ⟨rfl, h⟩
      refine j_iconst (v := 0) dX12_reached_106 (by decide) ?_
      refine j_istore_n dX12_reached_107 (by decide) rfl ?_
      refine j_iconst (v := 0) dX12_reached_108 (by decide) ?_
      refine j_istore dX12_reached_109 (by decide) rfl ?_
      refine j_sub [2, 1, 0] rfl ?_
      obtain ⟨n, h⟩ := h
      exact k_X12_reached_p111 h3 n _ _ _ _ h
    · replace h := h.2 hc
      refine j_iload_n 1 dX12_reached_70 rfl ?_
      refine j_iload_n 3 dX12_reached_71 rfl ?_
      refine j_ishr dX12_reached_72 ?_
      refine j_iconst (v := 1) dX12_reached_73 (by decide) ?_
      refine j_iand dX12_reached_74 ?_
      refine j_iconst (v := 1) dX12_reached_75 (by decide) ?_
      refine j_icmp_ne (tgt := 91) dX12_reached_76 (by decide) (fun hc => ?_) (fun hc => ?_)
      · replace h := h.1 hc
        refine j_iinc 3 dX12_reached_91 rfl rfl (by decide) rfl ?_
        refine j_goto (tgt := 62) dX12_reached_94 (by decide) ?_
        refine j_sub [1, 2, 3, 0] rfl ?_
        exact zih _ _ _ _ _ h
      · replace h := h.2 hc
        refine j_aload_n 0 dX12_reached_79 rfl ?_
        refine j_getR (b := (3, 0, 30)) dX12_reached_80 fsRX12_103 (h3 0 (by decide)) rfl rfl ?_
        refine j_aload_n 0 dX12_reached_83 rfl ?_
        refine j_getR (b := (3, 0, 31)) dX12_reached_84 fsRX12_106 (h3 0 (by decide)) rfl rfl ?_
        refine j_iload_n 3 dX12_reached_87 rfl ?_
        obtain ⟨hq, h⟩ := h
        refine j_iald dX12_reached_88 (h3 31 (by decide)) rfl hq ?_
        refine j_iconst (v := 1) dX12_reached_89 (by decide) ?_
        obtain ⟨hq, h⟩ := h
        refine j_zast dX12_reached_90 (h3 30 (by decide)) rfl hq ?_
        refine j_iinc 3 dX12_reached_91 rfl rfl (by decide) rfl ?_
        refine j_goto (tgt := 62) dX12_reached_94 (by decide) ?_
        refine j_sub [1, 2, 3, 0] rfl ?_
        exact zih _ _ _ _ _ h
def w_X12_reached_p46 (post : Int32 → am_I → am_N → Prop) (zk2 : Int32 → Int32 → Int32 → am_I → am_N → Prop) (l1 : Int32) (l2 : Int32) (l3 : Int32) (s0 : Int32) (s1 : Int32) (M : am_I) (N : am_N) : Prop :=
  vp_in s1 64 ∧ vp_in l3 64 ∧ zk2 l1 l2 (l3 + 1) (am_u (am_u M (3, 0, 29) s1.toNatClampNeg s0) (3, 0, 30) l3.toNatClampNeg (vp_nar .boolean 0)) N
set_option maxRecDepth 10000 in
theorem k_X12_reached_p46 {d : Nat} {dm : List am_C} (h3 : am_d3 dm) {post : Int32 → am_I → am_N → Prop} {zk2 : Int32 → Int32 → Int32 → am_I → am_N → Prop} (zhk2 : ∀ (l1 : Int32) (l2 : Int32) (l3 : Int32) (M : am_I) (N : am_N), zk2 l1 l2 l3 M N → jg (d + 3) mX12_reached dm 2 [(0, .inr (.inr (3, 0, 0))), (1, .inl l1), (2, .inl l2), (3, .inl l3)] [] M N (am_pi post)) (l1 : Int32) (l2 : Int32) (l3 : Int32) (s0 : Int32) (s1 : Int32) (M : am_I) (N : am_N) (h : w_X12_reached_p46 post zk2 l1 l2 l3 s0 s1 M N) : jg (d + 3) mX12_reached dm 46 [(0, .inr (.inr (3, 0, 0))), (1, .inl l1), (2, .inl l2), (3, .inl l3)] [.inl s0, .inl s1, .inr (.inr (3, 0, 29))] M N (am_pi post) := by
  obtain ⟨hq, h⟩ := h
  refine j_iast dX12_reached_46 (h3 29 (by decide)) rfl hq ?_
  refine j_aload_n 0 dX12_reached_47 rfl ?_
  refine j_getR (b := (3, 0, 30)) dX12_reached_48 fsRX12_103 (h3 0 (by decide)) rfl rfl ?_
  refine j_iload_n 3 dX12_reached_51 rfl ?_
  refine j_iconst (v := 0) dX12_reached_52 (by decide) ?_
  obtain ⟨hq, h⟩ := h
  refine j_zast dX12_reached_53 (h3 30 (by decide)) rfl hq ?_
  refine j_iinc 3 dX12_reached_54 rfl rfl (by decide) rfl ?_
  refine j_goto (tgt := 2) dX12_reached_57 (by decide) ?_
  refine j_sub [1, 2, 3, 0] rfl ?_
  exact zhk2 _ _ _ _ _ h
def w_X12_reached_p2_b (post : Int32 → am_I → am_N → Prop) (zk2 : Int32 → Int32 → Int32 → am_I → am_N → Prop) (l1 : Int32) (l2 : Int32) (l3 : Int32) (M : am_I) (N : am_N) : Prop :=
  ((64 ≤ l3 → ∃ n, w_X12_reached_p62 post n l1 l2 0 M N) ∧ (¬ 64 ≤ l3 → vp_in (192 + l3) 1635 ∧ ((¬ (M (3, 0, 1) (192 + l3).toNatClampNeg) = 1 → w_X12_reached_p46 post zk2 l1 l2 l3 (-1) l3 M N) ∧ ((M (3, 0, 1) (192 + l3).toNatClampNeg) = 1 → vp_in (320 + l3) 1635 ∧ ((¬ (M (3, 0, 1) (320 + l3).toNatClampNeg) = 1 → w_X12_reached_p46 post zk2 l1 l2 l3 (-1) l3 M N) ∧ ((M (3, 0, 1) (320 + l3).toNatClampNeg) = 1 → w_X12_reached_p46 post zk2 l1 l2 l3 0 l3 M N))))))
noncomputable def w_X12_reached_p2 (post : Int32 → am_I → am_N → Prop) (n : Nat) : Int32 → Int32 → Int32 → am_I → am_N → Prop :=
  Nat.rec (motive := fun _ => Int32 → Int32 → Int32 → am_I → am_N → Prop) (fun _ _ _ _ _ => False) (fun _ zk => w_X12_reached_p2_b post zk) n
theorem w_X12_reached_p2_s (post : Int32 → am_I → am_N → Prop) (n : Nat) (l1 : Int32) (l2 : Int32) (l3 : Int32) (M : am_I) (N : am_N) : w_X12_reached_p2 post (n + 1) l1 l2 l3 M N = w_X12_reached_p2_b post (w_X12_reached_p2 post n) l1 l2 l3 M N := rfl
set_option maxRecDepth 10000 in
theorem k_X12_reached_p2 {d : Nat} {dm : List am_C} (h3 : am_d3 dm) {post : Int32 → am_I → am_N → Prop} : ∀ (n : Nat) (l1 : Int32) (l2 : Int32) (l3 : Int32) (M : am_I) (N : am_N), w_X12_reached_p2 post n l1 l2 l3 M N → jg (d + 3) mX12_reached dm 2 [(0, .inr (.inr (3, 0, 0))), (1, .inl l1), (2, .inl l2), (3, .inl l3)] [] M N (am_pi post) := by
  intro n
  induction n with
  | zero => intro l1 l2 l3 M N h; exact h.elim
  | succ n zih =>
    intro l1 l2 l3 M N h
    replace h : w_X12_reached_p2_b post (w_X12_reached_p2 post n) l1 l2 l3 M N := h
    refine j_iload_n 3 dX12_reached_2 rfl ?_
    refine j_bipush (v := 64) dX12_reached_3 (by decide) ?_
    refine j_icmp_ge (tgt := 60) dX12_reached_5 (by decide) (fun hc => ?_) (fun hc => ?_)
    · replace h := h.1 hc
      refine j_iconst (v := 0) dX12_reached_60 (by decide) ?_
      refine j_istore_n dX12_reached_61 (by decide) rfl ?_
      refine j_sub [1, 2, 3, 0] rfl ?_
      obtain ⟨n, h⟩ := h
      exact k_X12_reached_p62 h3 n _ _ _ _ _ h
    · replace h := h.2 hc
      refine j_aload_n 0 dX12_reached_8 rfl ?_
      refine j_getR (b := (3, 0, 29)) dX12_reached_9 fsRX12_100 (h3 0 (by decide)) rfl rfl ?_
      refine j_iload_n 3 dX12_reached_12 rfl ?_
      refine j_aload_n 0 dX12_reached_13 rfl ?_
      refine j_getR (b := (3, 0, 1)) dX12_reached_14 fsRX12_7 (h3 0 (by decide)) rfl rfl ?_
      refine j_sipush (v := 192) dX12_reached_17 (by decide) ?_
      refine j_iload_n 3 dX12_reached_20 rfl ?_
      refine j_iadd dX12_reached_21 ?_
      obtain ⟨hq, h⟩ := h
      refine j_iald dX12_reached_22 (h3 1 (by decide)) rfl hq ?_
      refine j_iconst (v := 1) dX12_reached_23 (by decide) ?_
      refine j_icmp_ne (tgt := 45) dX12_reached_24 (by decide) (fun hc => ?_) (fun hc => ?_)
      · replace h := h.1 hc
        refine j_iconst (v := (-1)) dX12_reached_45 (by decide) ?_
        refine j_sub [0, 1, 2, 3] rfl ?_
        exact k_X12_reached_p46 h3 zih _ _ _ _ _ _ _ h
      · replace h := h.2 hc
        refine j_aload_n 0 dX12_reached_27 rfl ?_
        refine j_getR (b := (3, 0, 1)) dX12_reached_28 fsRX12_7 (h3 0 (by decide)) rfl rfl ?_
        refine j_sipush (v := 320) dX12_reached_31 (by decide) ?_
        refine j_iload_n 3 dX12_reached_34 rfl ?_
        refine j_iadd dX12_reached_35 ?_
        obtain ⟨hq, h⟩ := h
        refine j_iald dX12_reached_36 (h3 1 (by decide)) rfl hq ?_
        refine j_iconst (v := 1) dX12_reached_37 (by decide) ?_
        refine j_icmp_ne (tgt := 45) dX12_reached_38 (by decide) (fun hc => ?_) (fun hc => ?_)
        · replace h := h.1 hc
          refine j_iconst (v := (-1)) dX12_reached_45 (by decide) ?_
          refine j_sub [0, 1, 2, 3] rfl ?_
          exact k_X12_reached_p46 h3 zih _ _ _ _ _ _ _ h
        · replace h := h.2 hc
          refine j_iconst (v := 0) dX12_reached_41 (by decide) ?_
          refine j_goto (tgt := 46) dX12_reached_42 (by decide) ?_
          refine j_sub [0, 1, 2, 3] rfl ?_
          exact k_X12_reached_p46 h3 zih _ _ _ _ _ _ _ h
def w_X12_reached (a1 : Int32) (a2 : Int32) (M : am_I) (N : am_N) (post : Int32 → am_I → am_N → Prop) : Prop :=
  ∃ n, w_X12_reached_p2 post n a1 a2 0 M N
set_option maxRecDepth 10000 in
theorem k_X12_reached {d : Nat} {dm : List am_C} (h3 : am_d3 dm) {a1 : Int32} {a2 : Int32} {M : am_I} {N : am_N} {post : Int32 → am_I → am_N → Prop} (h : w_X12_reached a1 a2 M N post) : jg (d + 3) mX12_reached dm 0 [(0, .inr (.inr (3, 0, 0))), (1, .inl a1), (2, .inl a2)] [] M N (am_pi post) := by
  refine j_iconst (v := 0) dX12_reached_0 (by decide) ?_
  refine j_istore_n dX12_reached_1 (by decide) rfl ?_
  refine j_sub [1, 2, 3, 0] rfl ?_
  obtain ⟨n, h⟩ := h
  exact k_X12_reached_p2 h3 n _ _ _ _ _ h
def w_X12_bits_p4_b (post : Int32 → am_I → am_N → Prop) (zk4 : Int32 → Int32 → am_I → am_N → Prop) (l1 : Int32) (l2 : Int32) (M : am_I) (N : am_N) : Prop :=
  ((l2 ≤ 0 → post l1 M N) ∧ (¬ l2 ≤ 0 → ∀ zv1 : Int32, zv1 = l1 + (l2 &&& 1) → ∀ zv2 : Int32, zv2 = l2 >>> (1 &&& 31) → zk4 zv1 zv2 M N))
noncomputable def w_X12_bits_p4 (post : Int32 → am_I → am_N → Prop) (n : Nat) : Int32 → Int32 → am_I → am_N → Prop :=
  Nat.rec (motive := fun _ => Int32 → Int32 → am_I → am_N → Prop) (fun _ _ _ _ => False) (fun _ zk => w_X12_bits_p4_b post zk) n
theorem w_X12_bits_p4_s (post : Int32 → am_I → am_N → Prop) (n : Nat) (l1 : Int32) (l2 : Int32) (M : am_I) (N : am_N) : w_X12_bits_p4 post (n + 1) l1 l2 M N = w_X12_bits_p4_b post (w_X12_bits_p4 post n) l1 l2 M N := rfl
set_option maxRecDepth 10000 in
theorem k_X12_bits_p4 {d : Nat} {dm : List am_C}  {post : Int32 → am_I → am_N → Prop} : ∀ (n : Nat) (l1 : Int32) (l2 : Int32) (M : am_I) (N : am_N), w_X12_bits_p4 post n l1 l2 M N → jg (d + 1) mX12_bits dm 4 [(1, .inl l1), (2, .inl l2)] [] M N (am_pi post) := by
  intro n
  induction n with
  | zero => intro l1 l2 M N h; exact h.elim
  | succ n zih =>
    intro l1 l2 M N h
    replace h : w_X12_bits_p4_b post (w_X12_bits_p4 post n) l1 l2 M N := h
    refine j_iload_n 1 dX12_bits_4 rfl ?_
    refine j_if_le (tgt := 21) dX12_bits_5 (by decide) (fun hc => ?_) (fun hc => ?_)
    · replace h := h.1 hc
      refine j_iload_n 0 dX12_bits_21 rfl ?_
      exact j_iret dX12_bits_22 rfl ⟨_, rfl, h⟩
    · replace h := h.2 hc
      refine j_iload_n 0 dX12_bits_8 rfl ?_
      refine j_iload_n 1 dX12_bits_9 rfl ?_
      refine j_iconst (v := 1) dX12_bits_10 (by decide) ?_
      refine j_iand dX12_bits_11 ?_
      refine j_iadd dX12_bits_12 ?_
      refine j_topi (fun zv1 hzv1 => ?_)
      replace h := h zv1 hzv1
      refine j_istore_n dX12_bits_13 (by decide) rfl ?_
      refine j_iload_n 1 dX12_bits_14 rfl ?_
      refine j_iconst (v := 1) dX12_bits_15 (by decide) ?_
      refine j_ishr dX12_bits_16 ?_
      refine j_topi (fun zv2 hzv2 => ?_)
      replace h := h zv2 hzv2
      refine j_istore_n dX12_bits_17 (by decide) rfl ?_
      refine j_goto (tgt := 4) dX12_bits_18 (by decide) ?_
      refine j_sub [1, 0] rfl ?_
      exact zih _ _ _ _ h
def w_X12_bits (a1 : Int32) (M : am_I) (N : am_N) (post : Int32 → am_I → am_N → Prop) : Prop :=
  ∃ n, w_X12_bits_p4 post n 0 a1 M N
set_option maxRecDepth 10000 in
theorem k_X12_bits {d : Nat} {dm : List am_C}  {a1 : Int32} {M : am_I} {N : am_N} {post : Int32 → am_I → am_N → Prop} (h : w_X12_bits a1 M N post) : jg (d + 1) mX12_bits dm 0 [(0, .inl a1)] [] M N (am_pi post) := by
  refine j_iconst (v := 0) dX12_bits_0 (by decide) ?_
  refine j_istore_n dX12_bits_1 (by decide) rfl ?_
  refine j_iload_n 1 dX12_bits_2 rfl ?_
  refine j_istore_n dX12_bits_3 (by decide) rfl ?_
  refine j_sub [1, 0] rfl ?_
  obtain ⟨n, h⟩ := h
  exact k_X12_bits_p4  n _ _ _ _ h
def w_X12_pull_p108 (post : Int32 → am_I → am_N → Prop) (zk46 : Int32 → Int32 → Int32 → Int32 → Int32 → Int32 → am_I → am_N → Prop) (l1 : Int32) (l2 : Int32) (l3 : Int32) (l6 : Int32) (l7 : Int32) (M : am_I) (N : am_N) : Prop :=
  zk46 l1 l2 l3 l6 l7 (l6 + 1) M N
set_option maxRecDepth 10000 in
theorem k_X12_pull_p108 {d : Nat} {dm : List am_C} (h3 : am_d3 dm) {post : Int32 → am_I → am_N → Prop} {zk46 : Int32 → Int32 → Int32 → Int32 → Int32 → Int32 → am_I → am_N → Prop} (zhk46 : ∀ (l1 : Int32) (l2 : Int32) (l3 : Int32) (l4 : Int32) (l5 : Int32) (l6 : Int32) (M : am_I) (N : am_N), zk46 l1 l2 l3 l4 l5 l6 M N → jg (d + 4) mX12_pull dm 46 [(0, .inr (.inr (3, 0, 0))), (1, .inl l1), (2, .inl l2), (3, .inl l3), (4, .inl l4), (5, .inl l5), (6, .inl l6)] [] M N (am_pi post)) (l1 : Int32) (l2 : Int32) (l3 : Int32) (l6 : Int32) (l7 : Int32) (M : am_I) (N : am_N) (h : w_X12_pull_p108 post zk46 l1 l2 l3 l6 l7 M N) : jg (d + 4) mX12_pull dm 108 [(0, .inr (.inr (3, 0, 0))), (1, .inl l1), (2, .inl l2), (3, .inl l3), (6, .inl l6), (7, .inl l7)] [] M N (am_pi post) := by
  refine j_iload 4 dX12_pull_108 rfl ?_
  refine j_istore dX12_pull_110 (by decide) rfl ?_
  refine j_iload 6 dX12_pull_112 rfl ?_
  refine j_istore dX12_pull_114 (by decide) rfl ?_
  refine j_iinc 6 dX12_pull_116 rfl rfl (by decide) rfl ?_
  refine j_goto (tgt := 46) dX12_pull_119 (by decide) ?_
  refine j_sub [3, 4, 5, 6, 2, 1, 0] rfl ?_
  exact zhk46 _ _ _ _ _ _ _ _ h
def w_X12_pull_p46_b (post : Int32 → am_I → am_N → Prop) (zk46 : Int32 → Int32 → Int32 → Int32 → Int32 → Int32 → am_I → am_N → Prop) (l1 : Int32) (l2 : Int32) (l3 : Int32) (l4 : Int32) (l5 : Int32) (l6 : Int32) (M : am_I) (N : am_N) : Prop :=
  ((((1 : Int32) <<< ((M (3, 0, 0) 40) &&& 31)) ≤ l6 → ((¬ l3 = 0 → w_X12_isIn l3 10 (9 + (M (3, 0, 0) 40)) M N (fun zr1 zM2 zN3 => ((zr1 = 0 → w_X12_isIn l3 20 (19 + (zM2 (3, 0, 0) 40)) zM2 zN3 (fun zr4 zM5 zN6 => ((zr4 = 0 → post (-1) zM5 zN6) ∧ (¬ zr4 = 0 → post ((l4 >>> ((l3 - 20) &&& 31)) &&& 1) zM5 zN6)))) ∧ (¬ zr1 = 0 → vp_in (l3 - 10) 8 ∧ post (zM2 (3, 0, 31) (l3 - 10).toNatClampNeg) zM2 zN3)))) ∧ (l3 = 0 → post l5 M N))) ∧ (¬ ((1 : Int32) <<< ((M (3, 0, 0) 40) &&& 31)) ≤ l6 → w_X12_bits l6 M N (fun zr7 zM8 zN9 => ((zr7 ≤ l1 → w_X12_reached l6 l2 zM8 zN9 (fun zr10 zM11 zN12 => ((l5 < zr10 → zk46 l1 l2 l3 l4 l5 (l6 + 1) zM11 zN12) ∧ (¬ l5 < zr10 → ((¬ zr10 = l5 → w_X12_pull_p108 post zk46 l1 l2 l3 l6 zr10 zM11 zN12) ∧ (zr10 = l5 → w_X12_bits l6 zM11 zN12 (fun zr13 zM14 zN15 => w_X12_bits l4 zM14 zN15 (fun zr16 zM17 zN18 => ((zr13 < zr16 → w_X12_pull_p108 post zk46 l1 l2 l3 l6 zr10 zM17 zN18) ∧ (¬ zr13 < zr16 → zk46 l1 l2 l3 l4 l5 (l6 + 1) zM17 zN18)))))))))) ∧ (¬ zr7 ≤ l1 → zk46 l1 l2 l3 l4 l5 (l6 + 1) zM8 zN9)))))
noncomputable def w_X12_pull_p46 (post : Int32 → am_I → am_N → Prop) (n : Nat) : Int32 → Int32 → Int32 → Int32 → Int32 → Int32 → am_I → am_N → Prop :=
  Nat.rec (motive := fun _ => Int32 → Int32 → Int32 → Int32 → Int32 → Int32 → am_I → am_N → Prop) (fun _ _ _ _ _ _ _ _ => False) (fun _ zk => w_X12_pull_p46_b post zk) n
theorem w_X12_pull_p46_s (post : Int32 → am_I → am_N → Prop) (n : Nat) (l1 : Int32) (l2 : Int32) (l3 : Int32) (l4 : Int32) (l5 : Int32) (l6 : Int32) (M : am_I) (N : am_N) : w_X12_pull_p46 post (n + 1) l1 l2 l3 l4 l5 l6 M N = w_X12_pull_p46_b post (w_X12_pull_p46 post n) l1 l2 l3 l4 l5 l6 M N := rfl
set_option maxRecDepth 10000 in
theorem k_X12_pull_p46 {d : Nat} {dm : List am_C} (h3 : am_d3 dm) {post : Int32 → am_I → am_N → Prop} : ∀ (n : Nat) (l1 : Int32) (l2 : Int32) (l3 : Int32) (l4 : Int32) (l5 : Int32) (l6 : Int32) (M : am_I) (N : am_N), w_X12_pull_p46 post n l1 l2 l3 l4 l5 l6 M N → jg (d + 4) mX12_pull dm 46 [(0, .inr (.inr (3, 0, 0))), (1, .inl l1), (2, .inl l2), (3, .inl l3), (4, .inl l4), (5, .inl l5), (6, .inl l6)] [] M N (am_pi post) := by
  intro n
  induction n with
  | zero => intro l1 l2 l3 l4 l5 l6 M N h; exact h.elim
  | succ n zih =>
    intro l1 l2 l3 l4 l5 l6 M N h
    replace h : w_X12_pull_p46_b post (w_X12_pull_p46 post n) l1 l2 l3 l4 l5 l6 M N := h
    refine j_iload 6 dX12_pull_46 rfl ?_
    refine j_iconst (v := 1) dX12_pull_48 (by decide) ?_
    refine j_aload_n 0 dX12_pull_49 rfl ?_
    refine j_getI dX12_pull_50 fsRX12_341 (h3 0 (by decide)) rfl ?_
    refine j_ishl dX12_pull_53 ?_
    refine j_icmp_ge (tgt := 122) dX12_pull_54 (by decide) (fun hc => ?_) (fun hc => ?_)
    · replace h := h.1 hc
      refine j_iload_n 3 dX12_pull_122 rfl ?_
      refine j_if_ne (tgt := 131) dX12_pull_123 (by decide) (fun hc => ?_) (fun hc => ?_)
      · replace h := h.1 hc
        refine j_iload_n 3 dX12_pull_131 rfl ?_
        refine j_bipush (v := 10) dX12_pull_132 (by decide) ?_
        refine j_bipush (v := 9) dX12_pull_134 (by decide) ?_
        refine j_aload_n 0 dX12_pull_136 rfl ?_
        refine j_getI dX12_pull_137 fsRX12_341 (h3 0 (by decide)) rfl ?_
        refine j_iadd dX12_pull_140 ?_
        refine j_invS (As := [.inl l3, .inl 10, .inl (9 + (M (3, 0, 0) 40))]) dX12_pull_141 msRX12_162 mbX12_isIn rfl rfl (Nat.le_of_ble_eq_true rfl) (Nat.le_of_ble_eq_true rfl) (by omega) (k_X12_isIn (d := d + 2)  h) ?_
        rintro _ zM2 zN3 ⟨zr1, rfl, h⟩
        refine j_if_eq (tgt := 159) dX12_pull_144 (by decide) (fun hc => ?_) (fun hc => ?_)
        · replace h := h.1 hc
          refine j_iload_n 3 dX12_pull_159 rfl ?_
          refine j_bipush (v := 20) dX12_pull_160 (by decide) ?_
          refine j_bipush (v := 19) dX12_pull_162 (by decide) ?_
          refine j_aload_n 0 dX12_pull_164 rfl ?_
          refine j_getI dX12_pull_165 fsRX12_341 (h3 0 (by decide)) rfl ?_
          refine j_iadd dX12_pull_168 ?_
          refine j_invS (As := [.inl l3, .inl 20, .inl (19 + (zM2 (3, 0, 0) 40))]) dX12_pull_169 msRX12_162 mbX12_isIn rfl rfl (Nat.le_of_ble_eq_true rfl) (Nat.le_of_ble_eq_true rfl) (by omega) (k_X12_isIn (d := d + 2)  h) ?_
          rintro _ zM5 zN6 ⟨zr4, rfl, h⟩
          refine j_if_eq (tgt := 187) dX12_pull_172 (by decide) (fun hc => ?_) (fun hc => ?_)
          · replace h := h.1 hc
            refine j_iconst (v := (-1)) dX12_pull_187 (by decide) ?_
            exact j_iret dX12_pull_188 rfl ⟨_, rfl, h⟩
          · replace h := h.2 hc
            refine j_iload 4 dX12_pull_175 rfl ?_
            refine j_iload_n 3 dX12_pull_177 rfl ?_
            refine j_bipush (v := 20) dX12_pull_178 (by decide) ?_
            refine j_isub dX12_pull_180 ?_
            refine j_ishr dX12_pull_181 ?_
            refine j_iconst (v := 1) dX12_pull_182 (by decide) ?_
            refine j_iand dX12_pull_183 ?_
            refine j_goto (tgt := 188) dX12_pull_184 (by decide) ?_
            exact j_iret dX12_pull_188 rfl ⟨_, rfl, h⟩
        · replace h := h.2 hc
          refine j_aload_n 0 dX12_pull_147 rfl ?_
          refine j_getR (b := (3, 0, 31)) dX12_pull_148 fsRX12_106 (h3 0 (by decide)) rfl rfl ?_
          refine j_iload_n 3 dX12_pull_151 rfl ?_
          refine j_bipush (v := 10) dX12_pull_152 (by decide) ?_
          refine j_isub dX12_pull_154 ?_
          obtain ⟨hq, h⟩ := h
          refine j_iald dX12_pull_155 (h3 31 (by decide)) rfl hq ?_
          refine j_goto (tgt := 188) dX12_pull_156 (by decide) ?_
          exact j_iret dX12_pull_188 rfl ⟨_, rfl, h⟩
      · replace h := h.2 hc
        refine j_iload 5 dX12_pull_126 rfl ?_
        refine j_goto (tgt := 188) dX12_pull_128 (by decide) ?_
        exact j_iret dX12_pull_188 rfl ⟨_, rfl, h⟩
    · replace h := h.2 hc
      refine j_iload 6 dX12_pull_57 rfl ?_
      refine j_invS (As := [.inl l6]) dX12_pull_59 msRX12_350 mbX12_bits rfl rfl (Nat.le_of_ble_eq_true rfl) (Nat.le_of_ble_eq_true rfl) (by omega) (k_X12_bits (d := d + 2)  h) ?_
      rintro _ zM8 zN9 ⟨zr7, rfl, h⟩
      refine j_iload_n 1 dX12_pull_62 rfl ?_
      refine j_icmp_le (tgt := 69) dX12_pull_63 (by decide) (fun hc => ?_) (fun hc => ?_)
      · replace h := h.1 hc
        refine j_aload_n 0 dX12_pull_69 rfl ?_
        refine j_iload 6 dX12_pull_70 rfl ?_
        refine j_iload_n 2 dX12_pull_72 rfl ?_
        refine j_invV (As := [.inl l6, .inl l2]) dX12_pull_73 msRX12_347 mbX12_reached rfl rfl (Nat.le_of_ble_eq_true rfl) (Nat.le_of_ble_eq_true rfl) (by omega) (h3 0 (by decide)) rfl rfl (k_X12_reached (d := d + 0) h3 h) ?_
        rintro _ zM11 zN12 ⟨zr10, rfl, h⟩
        refine j_istore dX12_pull_76 (by decide) rfl ?_
        refine j_iload 0 dX12_pull_78 rfl ?_
        refine j_iload 6 dX12_pull_80 rfl ?_
        refine j_icmp_gt (tgt := 116) dX12_pull_82 (by decide) (fun hc => ?_) (fun hc => ?_)
        · replace h := h.1 hc
          refine j_iinc 7 dX12_pull_116 rfl rfl (by decide) rfl ?_
          refine j_goto (tgt := 46) dX12_pull_119 (by decide) ?_
          refine j_sub [2, 3, 4, 5, 6, 7, 0] rfl ?_
          exact zih _ _ _ _ _ _ _ _ h
        · replace h := h.2 hc
          refine j_iload 0 dX12_pull_85 rfl ?_
          refine j_iload 6 dX12_pull_87 rfl ?_
          refine j_icmp_ne (tgt := 108) dX12_pull_89 (by decide) (fun hc => ?_) (fun hc => ?_)
          · replace h := h.1 hc
            refine j_sub [1, 2, 3, 4, 7, 0] rfl ?_
            exact k_X12_pull_p108 h3 zih _ _ _ _ _ _ _ h
          · replace h := h.2 hc
            refine j_iload 7 dX12_pull_92 rfl ?_
            refine j_invS (As := [.inl l6]) dX12_pull_94 msRX12_350 mbX12_bits rfl rfl (Nat.le_of_ble_eq_true rfl) (Nat.le_of_ble_eq_true rfl) (by omega) (k_X12_bits (d := d + 2)  h) ?_
            rintro _ zM14 zN15 ⟨zr13, rfl, h⟩
            refine j_iload 5 dX12_pull_97 rfl ?_
            refine j_invS (As := [.inl l4]) dX12_pull_99 msRX12_350 mbX12_bits rfl rfl (Nat.le_of_ble_eq_true rfl) (Nat.le_of_ble_eq_true rfl) (by omega) (k_X12_bits (d := d + 2)  h) ?_
            rintro _ zM17 zN18 ⟨zr16, rfl, h⟩
            refine j_icmp_lt (tgt := 108) dX12_pull_102 (by decide) (fun hc => ?_) (fun hc => ?_)
            · replace h := h.1 hc
              refine j_sub [1, 2, 3, 4, 7, 0] rfl ?_
              exact k_X12_pull_p108 h3 zih _ _ _ _ _ _ _ h
            · replace h := h.2 hc
              refine j_goto (tgt := 116) dX12_pull_105 (by decide) ?_
              refine j_iinc 7 dX12_pull_116 rfl rfl (by decide) rfl ?_
              refine j_goto (tgt := 46) dX12_pull_119 (by decide) ?_
              refine j_sub [2, 3, 4, 5, 6, 7, 0] rfl ?_
              exact zih _ _ _ _ _ _ _ _ h
      · replace h := h.2 hc
        refine j_goto (tgt := 116) dX12_pull_66 (by decide) ?_
        refine j_iinc 6 dX12_pull_116 rfl rfl (by decide) rfl ?_
        refine j_goto (tgt := 46) dX12_pull_119 (by decide) ?_
        refine j_sub [1, 2, 3, 4, 5, 6, 0] rfl ?_
        exact zih _ _ _ _ _ _ _ _ h
def w_X12_pull (a1 : Int32) (a2 : Int32) (a3 : Int32) (M : am_I) (N : am_N) (post : Int32 → am_I → am_N → Prop) : Prop :=
  w_X12_isIn a1 1 3 M N (fun zr1 zM2 zN3 => ((zr1 = 0 → post (-1) zM2 zN3) ∧ (¬ zr1 = 0 → w_X12_isIn a2 0 64 zM2 zN3 (fun zr4 zM5 zN6 => ((zr4 = 0 → post (-1) zM5 zN6) ∧ (¬ zr4 = 0 → w_X12_illMany zM5 zN6 (fun zr7 zM8 zN9 => ((¬ zr7 = 0 → w_X12_finds zM8 zN9 (fun zM10 zN11 => w_X12_reached 0 a2 zM10 zN11 (fun zr12 zM13 zN14 => ∃ n, w_X12_pull_p46 post n a1 a2 a3 0 zr12 1 zM13 zN14))) ∧ (zr7 = 0 → post (-1) zM8 zN9)))))))))
set_option maxRecDepth 10000 in
theorem k_X12_pull {d : Nat} {dm : List am_C} (h3 : am_d3 dm) {a1 : Int32} {a2 : Int32} {a3 : Int32} {M : am_I} {N : am_N} {post : Int32 → am_I → am_N → Prop} (h : w_X12_pull a1 a2 a3 M N post) : jg (d + 4) mX12_pull dm 0 [(0, .inr (.inr (3, 0, 0))), (1, .inl a1), (2, .inl a2), (3, .inl a3)] [] M N (am_pi post) := by
  refine j_iload_n 1 dX12_pull_0 rfl ?_
  refine j_iconst (v := 1) dX12_pull_1 (by decide) ?_
  refine j_iconst (v := 3) dX12_pull_2 (by decide) ?_
  refine j_invS (As := [.inl a1, .inl 1, .inl 3]) dX12_pull_3 msRX12_162 mbX12_isIn rfl rfl (Nat.le_of_ble_eq_true rfl) (Nat.le_of_ble_eq_true rfl) (by omega) (k_X12_isIn (d := d + 2)  h) ?_
  rintro _ zM2 zN3 ⟨zr1, rfl, h⟩
  refine j_if_eq (tgt := 26) dX12_pull_6 (by decide) (fun hc => ?_) (fun hc => ?_)
  · replace h := h.1 hc
    refine j_iconst (v := (-1)) dX12_pull_26 (by decide) ?_
    exact j_iret dX12_pull_27 rfl ⟨_, rfl, h⟩
  · replace h := h.2 hc
    refine j_iload_n 2 dX12_pull_9 rfl ?_
    refine j_iconst (v := 0) dX12_pull_10 (by decide) ?_
    refine j_bipush (v := 64) dX12_pull_11 (by decide) ?_
    refine j_invS (As := [.inl a2, .inl 0, .inl 64]) dX12_pull_13 msRX12_162 mbX12_isIn rfl rfl (Nat.le_of_ble_eq_true rfl) (Nat.le_of_ble_eq_true rfl) (by omega) (k_X12_isIn (d := d + 2)  h) ?_
    rintro _ zM5 zN6 ⟨zr4, rfl, h⟩
    refine j_if_eq (tgt := 26) dX12_pull_16 (by decide) (fun hc => ?_) (fun hc => ?_)
    · replace h := h.1 hc
      refine j_iconst (v := (-1)) dX12_pull_26 (by decide) ?_
      exact j_iret dX12_pull_27 rfl ⟨_, rfl, h⟩
    · replace h := h.2 hc
      refine j_aload_n 0 dX12_pull_19 rfl ?_
      refine j_invV (As := []) dX12_pull_20 msRX12_334 mbX12_illMany rfl rfl (Nat.le_of_ble_eq_true rfl) (Nat.le_of_ble_eq_true rfl) (by omega) (h3 0 (by decide)) rfl rfl (k_X12_illMany (d := d + 1) h3 h) ?_
      rintro _ zM8 zN9 ⟨zr7, rfl, h⟩
      refine j_if_ne (tgt := 28) dX12_pull_23 (by decide) (fun hc => ?_) (fun hc => ?_)
      · replace h := h.1 hc
        refine j_aload_n 0 dX12_pull_28 rfl ?_
        refine j_invV (As := []) dX12_pull_29 msRX12_344 mbX12_finds rfl rfl (Nat.le_of_ble_eq_true rfl) (Nat.le_of_ble_eq_true rfl) (by omega) (h3 0 (by decide)) rfl rfl (k_X12_finds (d := d + 1) h3 h) ?_
        rintro _ zM10 zN11 ⟨rfl, h⟩
        refine j_iconst (v := 0) dX12_pull_32 (by decide) ?_
        refine j_istore dX12_pull_33 (by decide) rfl ?_
        refine j_aload_n 1 dX12_pull_35 rfl ?_
        refine j_iconst (v := 0) dX12_pull_36 (by decide) ?_
        refine j_iload_n 3 dX12_pull_37 rfl ?_
        refine j_invV (As := [.inl 0, .inl a2]) dX12_pull_38 msRX12_347 mbX12_reached rfl rfl (Nat.le_of_ble_eq_true rfl) (Nat.le_of_ble_eq_true rfl) (by omega) (h3 0 (by decide)) rfl rfl (k_X12_reached (d := d + 0) h3 h) ?_
        rintro _ zM13 zN14 ⟨zr12, rfl, h⟩
        refine j_istore dX12_pull_41 (by decide) rfl ?_
        refine j_iconst (v := 1) dX12_pull_43 (by decide) ?_
        refine j_istore dX12_pull_44 (by decide) rfl ?_
        refine j_sub [3, 4, 5, 6, 2, 1, 0] rfl ?_
        obtain ⟨n, h⟩ := h
        exact k_X12_pull_p46 h3 n _ _ _ _ _ _ _ _ h
      · replace h := h.2 hc
        refine j_iconst (v := (-1)) dX12_pull_26 (by decide) ?_
        exact j_iret dX12_pull_27 rfl ⟨_, rfl, h⟩
def w_X12_strip (a1 : Int32) (a2 : Int32) (M : am_I) (N : am_N) (post : Int32 → am_I → am_N → Prop) : Prop :=
  w_X12_isIn a1 0 1 M N (fun zr1 zM2 zN3 => ((zr1 = 0 → post (-1) zM2 zN3) ∧ (¬ zr1 = 0 → w_X12_isIn a2 0 9999 zM2 zN3 (fun zr4 zM5 zN6 => ((zr4 = 0 → post (-1) zM5 zN6) ∧ (¬ zr4 = 0 → ((¬ (zM5 (3, 0, 0) 42) = 12 → vp_in (zM5 (3, 0, 0) 42) 12 ∧ vp_in ((am_u zM5 (3, 0, 32) (zM5 (3, 0, 0) 42).toNatClampNeg a1) (3, 0, 0) 42) 12 ∧ post (((am_u (am_u (am_u zM5 (3, 0, 32) (zM5 (3, 0, 0) 42).toNatClampNeg a1) (3, 0, 33) ((am_u zM5 (3, 0, 32) (zM5 (3, 0, 0) 42).toNatClampNeg a1) (3, 0, 0) 42).toNatClampNeg a2) (3, 0, 0) 42 (((am_u (am_u zM5 (3, 0, 32) (zM5 (3, 0, 0) 42).toNatClampNeg a1) (3, 0, 33) ((am_u zM5 (3, 0, 32) (zM5 (3, 0, 0) 42).toNatClampNeg a1) (3, 0, 0) 42).toNatClampNeg a2) (3, 0, 0) 42) + 1)) (3, 0, 0) 42) - 1) (am_u (am_u (am_u zM5 (3, 0, 32) (zM5 (3, 0, 0) 42).toNatClampNeg a1) (3, 0, 33) ((am_u zM5 (3, 0, 32) (zM5 (3, 0, 0) 42).toNatClampNeg a1) (3, 0, 0) 42).toNatClampNeg a2) (3, 0, 0) 42 (((am_u (am_u zM5 (3, 0, 32) (zM5 (3, 0, 0) 42).toNatClampNeg a1) (3, 0, 33) ((am_u zM5 (3, 0, 32) (zM5 (3, 0, 0) 42).toNatClampNeg a1) (3, 0, 0) 42).toNatClampNeg a2) (3, 0, 0) 42) + 1)) zN6) ∧ ((zM5 (3, 0, 0) 42) = 12 → post (-1) zM5 zN6))))))))
set_option maxRecDepth 10000 in
theorem k_X12_strip {d : Nat} {dm : List am_C} (h3 : am_d3 dm) {a1 : Int32} {a2 : Int32} {M : am_I} {N : am_N} {post : Int32 → am_I → am_N → Prop} (h : w_X12_strip a1 a2 M N post) : jg (d + 2) mX12_strip dm 0 [(0, .inr (.inr (3, 0, 0))), (1, .inl a1), (2, .inl a2)] [] M N (am_pi post) := by
  refine j_iload_n 1 dX12_strip_0 rfl ?_
  refine j_iconst (v := 0) dX12_strip_1 (by decide) ?_
  refine j_iconst (v := 1) dX12_strip_2 (by decide) ?_
  refine j_invS (As := [.inl a1, .inl 0, .inl 1]) dX12_strip_3 msRX12_162 mbX12_isIn rfl rfl (Nat.le_of_ble_eq_true rfl) (Nat.le_of_ble_eq_true rfl) (by omega) (k_X12_isIn (d := d + 0)  h) ?_
  rintro _ zM2 zN3 ⟨zr1, rfl, h⟩
  refine j_if_eq (tgt := 29) dX12_strip_6 (by decide) (fun hc => ?_) (fun hc => ?_)
  · replace h := h.1 hc
    refine j_iconst (v := (-1)) dX12_strip_29 (by decide) ?_
    exact j_iret dX12_strip_30 rfl ⟨_, rfl, h⟩
  · replace h := h.2 hc
    refine j_iload_n 2 dX12_strip_9 rfl ?_
    refine j_iconst (v := 0) dX12_strip_10 (by decide) ?_
    refine j_sipush (v := 9999) dX12_strip_11 (by decide) ?_
    refine j_invS (As := [.inl a2, .inl 0, .inl 9999]) dX12_strip_14 msRX12_162 mbX12_isIn rfl rfl (Nat.le_of_ble_eq_true rfl) (Nat.le_of_ble_eq_true rfl) (by omega) (k_X12_isIn (d := d + 0)  h) ?_
    rintro _ zM5 zN6 ⟨zr4, rfl, h⟩
    refine j_if_eq (tgt := 29) dX12_strip_17 (by decide) (fun hc => ?_) (fun hc => ?_)
    · replace h := h.1 hc
      refine j_iconst (v := (-1)) dX12_strip_29 (by decide) ?_
      exact j_iret dX12_strip_30 rfl ⟨_, rfl, h⟩
    · replace h := h.2 hc
      refine j_aload_n 0 dX12_strip_20 rfl ?_
      refine j_getI dX12_strip_21 fsRX12_353 (h3 0 (by decide)) rfl ?_
      refine j_bipush (v := 12) dX12_strip_24 (by decide) ?_
      refine j_icmp_ne (tgt := 31) dX12_strip_26 (by decide) (fun hc => ?_) (fun hc => ?_)
      · replace h := h.1 hc
        refine j_aload_n 0 dX12_strip_31 rfl ?_
        refine j_getR (b := (3, 0, 32)) dX12_strip_32 fsRX12_109 (h3 0 (by decide)) rfl rfl ?_
        refine j_aload_n 0 dX12_strip_35 rfl ?_
        refine j_getI dX12_strip_36 fsRX12_353 (h3 0 (by decide)) rfl ?_
        refine j_iload_n 1 dX12_strip_39 rfl ?_
        obtain ⟨hq, h⟩ := h
        refine j_iast dX12_strip_40 (h3 32 (by decide)) rfl hq ?_
        refine j_aload_n 0 dX12_strip_41 rfl ?_
        refine j_getR (b := (3, 0, 33)) dX12_strip_42 fsRX12_112 (h3 0 (by decide)) rfl rfl ?_
        refine j_aload_n 0 dX12_strip_45 rfl ?_
        refine j_getI dX12_strip_46 fsRX12_353 (h3 0 (by decide)) rfl ?_
        refine j_iload_n 2 dX12_strip_49 rfl ?_
        obtain ⟨hq, h⟩ := h
        refine j_iast dX12_strip_50 (h3 33 (by decide)) rfl hq ?_
        refine j_aload_n 0 dX12_strip_51 rfl ?_
        refine j_dup dX12_strip_52 rfl ?_
        refine j_getI dX12_strip_53 fsRX12_353 (h3 0 (by decide)) rfl ?_
        refine j_iconst (v := 1) dX12_strip_56 (by decide) ?_
        refine j_iadd dX12_strip_57 ?_
        refine j_putI dX12_strip_58 fwRX12_353 (h3 0 (by decide)) rfl ?_
        refine j_aload_n 0 dX12_strip_61 rfl ?_
        refine j_getI dX12_strip_62 fsRX12_353 (h3 0 (by decide)) rfl ?_
        refine j_iconst (v := 1) dX12_strip_65 (by decide) ?_
        refine j_isub dX12_strip_66 ?_
        exact j_iret dX12_strip_67 rfl ⟨_, rfl, h⟩
      · replace h := h.2 hc
        refine j_iconst (v := (-1)) dX12_strip_29 (by decide) ?_
        exact j_iret dX12_strip_30 rfl ⟨_, rfl, h⟩
def w_X12_leadOf_p13_b (post : Int32 → am_I → am_N → Prop) (zk13 : Int32 → Int32 → Int32 → Int32 → Int32 → am_I → am_N → Prop) (l1 : Int32) (l2 : Int32) (l3 : Int32) (l4 : Int32) (l5 : Int32) (M : am_I) (N : am_N) : Prop :=
  (((M (3, 0, 0) 42) ≤ l5 → post ((l3 * ((M (3, 0, 0) 42) - l2)) - (l4 * l2)) M N) ∧ (¬ (M (3, 0, 0) 42) ≤ l5 → ((¬ ((l1 >>> (l5 &&& 31)) &&& 1) = 1 → vp_in l5 12 ∧ ∀ zv1 : Int32, zv1 = l4 + (M (3, 0, 33) l5.toNatClampNeg) → zk13 l1 l2 l3 zv1 (l5 + 1) M N) ∧ (((l1 >>> (l5 &&& 31)) &&& 1) = 1 → vp_in l5 12 ∧ ∀ zv2 : Int32, zv2 = l3 + (M (3, 0, 33) l5.toNatClampNeg) → zk13 l1 l2 zv2 l4 (l5 + 1) M N))))
noncomputable def w_X12_leadOf_p13 (post : Int32 → am_I → am_N → Prop) (n : Nat) : Int32 → Int32 → Int32 → Int32 → Int32 → am_I → am_N → Prop :=
  Nat.rec (motive := fun _ => Int32 → Int32 → Int32 → Int32 → Int32 → am_I → am_N → Prop) (fun _ _ _ _ _ _ _ => False) (fun _ zk => w_X12_leadOf_p13_b post zk) n
theorem w_X12_leadOf_p13_s (post : Int32 → am_I → am_N → Prop) (n : Nat) (l1 : Int32) (l2 : Int32) (l3 : Int32) (l4 : Int32) (l5 : Int32) (M : am_I) (N : am_N) : w_X12_leadOf_p13 post (n + 1) l1 l2 l3 l4 l5 M N = w_X12_leadOf_p13_b post (w_X12_leadOf_p13 post n) l1 l2 l3 l4 l5 M N := rfl
set_option maxRecDepth 10000 in
theorem k_X12_leadOf_p13 {d : Nat} {dm : List am_C} (h3 : am_d3 dm) {post : Int32 → am_I → am_N → Prop} : ∀ (n : Nat) (l1 : Int32) (l2 : Int32) (l3 : Int32) (l4 : Int32) (l5 : Int32) (M : am_I) (N : am_N), w_X12_leadOf_p13 post n l1 l2 l3 l4 l5 M N → jg (d + 2) mX12_leadOf dm 13 [(0, .inr (.inr (3, 0, 0))), (1, .inl l1), (2, .inl l2), (3, .inl l3), (4, .inl l4), (5, .inl l5)] [] M N (am_pi post) := by
  intro n
  induction n with
  | zero => intro l1 l2 l3 l4 l5 M N h; exact h.elim
  | succ n zih =>
    intro l1 l2 l3 l4 l5 M N h
    replace h : w_X12_leadOf_p13_b post (w_X12_leadOf_p13 post n) l1 l2 l3 l4 l5 M N := h
    refine j_iload 5 dX12_leadOf_13 rfl ?_
    refine j_aload_n 0 dX12_leadOf_15 rfl ?_
    refine j_getI dX12_leadOf_16 fsRX12_353 (h3 0 (by decide)) rfl ?_
    refine j_icmp_ge (tgt := 63) dX12_leadOf_19 (by decide) (fun hc => ?_) (fun hc => ?_)
    · replace h := h.1 hc
      refine j_iload_n 3 dX12_leadOf_63 rfl ?_
      refine j_aload_n 0 dX12_leadOf_64 rfl ?_
      refine j_getI dX12_leadOf_65 fsRX12_353 (h3 0 (by decide)) rfl ?_
      refine j_iload_n 2 dX12_leadOf_68 rfl ?_
      refine j_isub dX12_leadOf_69 ?_
      refine j_imul dX12_leadOf_70 ?_
      refine j_iload 4 dX12_leadOf_71 rfl ?_
      refine j_iload_n 2 dX12_leadOf_73 rfl ?_
      refine j_imul dX12_leadOf_74 ?_
      refine j_isub dX12_leadOf_75 ?_
      exact j_iret dX12_leadOf_76 rfl ⟨_, rfl, h⟩
    · replace h := h.2 hc
      refine j_iload_n 1 dX12_leadOf_22 rfl ?_
      refine j_iload 5 dX12_leadOf_23 rfl ?_
      refine j_ishr dX12_leadOf_25 ?_
      refine j_iconst (v := 1) dX12_leadOf_26 (by decide) ?_
      refine j_iand dX12_leadOf_27 ?_
      refine j_iconst (v := 1) dX12_leadOf_28 (by decide) ?_
      refine j_icmp_ne (tgt := 45) dX12_leadOf_29 (by decide) (fun hc => ?_) (fun hc => ?_)
      · replace h := h.1 hc
        refine j_iload 4 dX12_leadOf_45 rfl ?_
        refine j_aload_n 0 dX12_leadOf_47 rfl ?_
        refine j_getR (b := (3, 0, 33)) dX12_leadOf_48 fsRX12_112 (h3 0 (by decide)) rfl rfl ?_
        refine j_iload 5 dX12_leadOf_51 rfl ?_
        obtain ⟨hq, h⟩ := h
        refine j_iald dX12_leadOf_53 (h3 33 (by decide)) rfl hq ?_
        refine j_iadd dX12_leadOf_54 ?_
        refine j_topi (fun zv1 hzv1 => ?_)
        replace h := h zv1 hzv1
        refine j_istore dX12_leadOf_55 (by decide) rfl ?_
        refine j_iinc 5 dX12_leadOf_57 rfl rfl (by decide) rfl ?_
        refine j_goto (tgt := 13) dX12_leadOf_60 (by decide) ?_
        refine j_sub [2, 3, 4, 5, 1, 0] rfl ?_
        exact zih _ _ _ _ _ _ _ h
      · replace h := h.2 hc
        refine j_iload_n 3 dX12_leadOf_32 rfl ?_
        refine j_aload_n 0 dX12_leadOf_33 rfl ?_
        refine j_getR (b := (3, 0, 33)) dX12_leadOf_34 fsRX12_112 (h3 0 (by decide)) rfl rfl ?_
        refine j_iload 5 dX12_leadOf_37 rfl ?_
        obtain ⟨hq, h⟩ := h
        refine j_iald dX12_leadOf_39 (h3 33 (by decide)) rfl hq ?_
        refine j_iadd dX12_leadOf_40 ?_
        refine j_topi (fun zv2 hzv2 => ?_)
        replace h := h zv2 hzv2
        refine j_istore_n dX12_leadOf_41 (by decide) rfl ?_
        refine j_goto (tgt := 57) dX12_leadOf_42 (by decide) ?_
        refine j_iinc 5 dX12_leadOf_57 rfl rfl (by decide) rfl ?_
        refine j_goto (tgt := 13) dX12_leadOf_60 (by decide) ?_
        refine j_sub [2, 3, 4, 1, 5, 0] rfl ?_
        exact zih _ _ _ _ _ _ _ h
def w_X12_leadOf (a1 : Int32) (M : am_I) (N : am_N) (post : Int32 → am_I → am_N → Prop) : Prop :=
  w_X12_bits a1 M N (fun zr1 zM2 zN3 => ∃ n, w_X12_leadOf_p13 post n a1 zr1 0 0 0 zM2 zN3)
set_option maxRecDepth 10000 in
theorem k_X12_leadOf {d : Nat} {dm : List am_C} (h3 : am_d3 dm) {a1 : Int32} {M : am_I} {N : am_N} {post : Int32 → am_I → am_N → Prop} (h : w_X12_leadOf a1 M N post) : jg (d + 2) mX12_leadOf dm 0 [(0, .inr (.inr (3, 0, 0))), (1, .inl a1)] [] M N (am_pi post) := by
  refine j_iload_n 1 dX12_leadOf_0 rfl ?_
  refine j_invS (As := [.inl a1]) dX12_leadOf_1 msRX12_350 mbX12_bits rfl rfl (Nat.le_of_ble_eq_true rfl) (Nat.le_of_ble_eq_true rfl) (by omega) (k_X12_bits (d := d + 0)  h) ?_
  rintro _ zM2 zN3 ⟨zr1, rfl, h⟩
  refine j_istore_n dX12_leadOf_4 (by decide) rfl ?_
  refine j_iconst (v := 0) dX12_leadOf_5 (by decide) ?_
  refine j_istore_n dX12_leadOf_6 (by decide) rfl ?_
  refine j_iconst (v := 0) dX12_leadOf_7 (by decide) ?_
  refine j_istore dX12_leadOf_8 (by decide) rfl ?_
  refine j_iconst (v := 0) dX12_leadOf_10 (by decide) ?_
  refine j_istore dX12_leadOf_11 (by decide) rfl ?_
  refine j_sub [4, 5, 3, 2, 1, 0] rfl ?_
  obtain ⟨n, h⟩ := h
  exact k_X12_leadOf_p13 h3 n _ _ _ _ _ _ _ h
def w_X12_better_p87 (post : Int32 → am_I → am_N → Prop) (zk37 : Int32 → Int32 → Int32 → Int32 → Int32 → am_I → am_N → Prop) (l1 : Int32) (l2 : Int32) (l3 : Int32) (l5 : Int32) (s0 : Int32) (s1 : Int32) (M : am_I) (N : am_N) : Prop :=
  w_X12_one s0 M N (fun zr1 zM2 zN3 => zk37 l1 l2 l3 (s1 + zr1) (l5 + 1) zM2 zN3)
set_option maxRecDepth 10000 in
theorem k_X12_better_p87 {d : Nat} {dm : List am_C} (h3 : am_d3 dm) {post : Int32 → am_I → am_N → Prop} {zk37 : Int32 → Int32 → Int32 → Int32 → Int32 → am_I → am_N → Prop} (zhk37 : ∀ (l1 : Int32) (l2 : Int32) (l3 : Int32) (l4 : Int32) (l5 : Int32) (M : am_I) (N : am_N), zk37 l1 l2 l3 l4 l5 M N → jg (d + 3) mX12_better dm 37 [(0, .inr (.inr (3, 0, 0))), (1, .inl l1), (2, .inl l2), (3, .inl l3), (4, .inl l4), (5, .inl l5)] [] M N (am_pi post)) (l1 : Int32) (l2 : Int32) (l3 : Int32) (l5 : Int32) (s0 : Int32) (s1 : Int32) (M : am_I) (N : am_N) (h : w_X12_better_p87 post zk37 l1 l2 l3 l5 s0 s1 M N) : jg (d + 3) mX12_better dm 87 [(0, .inr (.inr (3, 0, 0))), (1, .inl l1), (2, .inl l2), (3, .inl l3), (5, .inl l5)] [.inl s0, .inl s1] M N (am_pi post) := by
  refine j_invS (As := [.inl s0]) dX12_better_87 msRX12_231 mbX12_one rfl rfl (Nat.le_of_ble_eq_true rfl) (Nat.le_of_ble_eq_true rfl) (by omega) (k_X12_one (d := d + 1)  h) ?_
  rintro _ zM2 zN3 ⟨zr1, rfl, h⟩
  refine j_iadd dX12_better_90 ?_
  refine j_istore dX12_better_91 (by decide) rfl ?_
  refine j_iinc 5 dX12_better_93 rfl rfl (by decide) rfl ?_
  refine j_goto (tgt := 37) dX12_better_96 (by decide) ?_
  refine j_sub [2, 3, 4, 5, 1, 0] rfl ?_
  exact zhk37 _ _ _ _ _ _ _ h
def w_X12_better_p37_b (post : Int32 → am_I → am_N → Prop) (zk37 : Int32 → Int32 → Int32 → Int32 → Int32 → am_I → am_N → Prop) (l1 : Int32) (l2 : Int32) (l3 : Int32) (l4 : Int32) (l5 : Int32) (M : am_I) (N : am_N) : Prop :=
  ((((1 : Int32) <<< ((M (3, 0, 0) 42) &&& 31)) ≤ l5 → ((¬ l1 = 0 → ((¬ l1 = 1 → ((¬ l1 = 2 → post (-2000000000) M N) ∧ (l1 = 2 → w_X12_leadOf l2 M N (fun zr1 zM2 zN3 => post zr1 zM2 zN3)))) ∧ (l1 = 1 → post l3 M N))) ∧ (l1 = 0 → post l4 M N))) ∧ (¬ ((1 : Int32) <<< ((M (3, 0, 0) 42) &&& 31)) ≤ l5 → w_X12_bits l5 M N (fun zr4 zM5 zN6 => w_X12_bits l2 zM5 zN6 (fun zr7 zM8 zN9 => ((zr4 = zr7 → w_X12_leadOf l5 zM8 zN9 (fun zr10 zM11 zN12 => w_X12_leadOf l2 zM11 zN12 (fun zr13 zM14 zN15 => ((zr10 < zr13 → w_X12_better_p87 post zk37 l1 l2 (l3 + 1) l5 0 l4 zM14 zN15) ∧ (¬ zr10 < zr13 → w_X12_better_p87 post zk37 l1 l2 (l3 + 1) l5 1 l4 zM14 zN15))))) ∧ (¬ zr4 = zr7 → zk37 l1 l2 l3 l4 (l5 + 1) zM8 zN9))))))
noncomputable def w_X12_better_p37 (post : Int32 → am_I → am_N → Prop) (n : Nat) : Int32 → Int32 → Int32 → Int32 → Int32 → am_I → am_N → Prop :=
  Nat.rec (motive := fun _ => Int32 → Int32 → Int32 → Int32 → Int32 → am_I → am_N → Prop) (fun _ _ _ _ _ _ _ => False) (fun _ zk => w_X12_better_p37_b post zk) n
theorem w_X12_better_p37_s (post : Int32 → am_I → am_N → Prop) (n : Nat) (l1 : Int32) (l2 : Int32) (l3 : Int32) (l4 : Int32) (l5 : Int32) (M : am_I) (N : am_N) : w_X12_better_p37 post (n + 1) l1 l2 l3 l4 l5 M N = w_X12_better_p37_b post (w_X12_better_p37 post n) l1 l2 l3 l4 l5 M N := rfl
set_option maxRecDepth 10000 in
theorem k_X12_better_p37 {d : Nat} {dm : List am_C} (h3 : am_d3 dm) {post : Int32 → am_I → am_N → Prop} : ∀ (n : Nat) (l1 : Int32) (l2 : Int32) (l3 : Int32) (l4 : Int32) (l5 : Int32) (M : am_I) (N : am_N), w_X12_better_p37 post n l1 l2 l3 l4 l5 M N → jg (d + 3) mX12_better dm 37 [(0, .inr (.inr (3, 0, 0))), (1, .inl l1), (2, .inl l2), (3, .inl l3), (4, .inl l4), (5, .inl l5)] [] M N (am_pi post) := by
  intro n
  induction n with
  | zero => intro l1 l2 l3 l4 l5 M N h; exact h.elim
  | succ n zih =>
    intro l1 l2 l3 l4 l5 M N h
    replace h : w_X12_better_p37_b post (w_X12_better_p37 post n) l1 l2 l3 l4 l5 M N := h
    refine j_iload 5 dX12_better_37 rfl ?_
    refine j_iconst (v := 1) dX12_better_39 (by decide) ?_
    refine j_aload_n 0 dX12_better_40 rfl ?_
    refine j_getI dX12_better_41 fsRX12_353 (h3 0 (by decide)) rfl ?_
    refine j_ishl dX12_better_44 ?_
    refine j_icmp_ge (tgt := 99) dX12_better_45 (by decide) (fun hc => ?_) (fun hc => ?_)
    · replace h := h.1 hc
      refine j_iload_n 1 dX12_better_99 rfl ?_
      refine j_if_ne (tgt := 108) dX12_better_100 (by decide) (fun hc => ?_) (fun hc => ?_)
      · replace h := h.1 hc
        refine j_iload_n 1 dX12_better_108 rfl ?_
        refine j_iconst (v := 1) dX12_better_109 (by decide) ?_
        refine j_icmp_ne (tgt := 117) dX12_better_110 (by decide) (fun hc => ?_) (fun hc => ?_)
        · replace h := h.1 hc
          refine j_iload_n 1 dX12_better_117 rfl ?_
          refine j_iconst (v := 2) dX12_better_118 (by decide) ?_
          refine j_icmp_ne (tgt := 130) dX12_better_119 (by decide) (fun hc => ?_) (fun hc => ?_)
          · replace h := h.1 hc
            refine j_ldcw (v := (-2000000000)) dX12_better_130 cw_1819 ?_
            exact j_iret dX12_better_133 rfl ⟨_, rfl, h⟩
          · replace h := h.2 hc
            refine j_aload_n 0 dX12_better_122 rfl ?_
            refine j_iload_n 2 dX12_better_123 rfl ?_
            refine j_invV (As := [.inl l2]) dX12_better_124 msRX12_356 mbX12_leadOf rfl rfl (Nat.le_of_ble_eq_true rfl) (Nat.le_of_ble_eq_true rfl) (by omega) (h3 0 (by decide)) rfl rfl (k_X12_leadOf (d := d + 0) h3 h) ?_
            rintro _ zM2 zN3 ⟨zr1, rfl, h⟩
            refine j_goto (tgt := 133) dX12_better_127 (by decide) ?_
            exact j_iret dX12_better_133 rfl ⟨_, rfl, h⟩
        · replace h := h.2 hc
          refine j_iload_n 3 dX12_better_113 rfl ?_
          refine j_goto (tgt := 133) dX12_better_114 (by decide) ?_
          exact j_iret dX12_better_133 rfl ⟨_, rfl, h⟩
      · replace h := h.2 hc
        refine j_iload 4 dX12_better_103 rfl ?_
        refine j_goto (tgt := 133) dX12_better_105 (by decide) ?_
        exact j_iret dX12_better_133 rfl ⟨_, rfl, h⟩
    · replace h := h.2 hc
      refine j_iload 5 dX12_better_48 rfl ?_
      refine j_invS (As := [.inl l5]) dX12_better_50 msRX12_350 mbX12_bits rfl rfl (Nat.le_of_ble_eq_true rfl) (Nat.le_of_ble_eq_true rfl) (by omega) (k_X12_bits (d := d + 1)  h) ?_
      rintro _ zM5 zN6 ⟨zr4, rfl, h⟩
      refine j_iload_n 2 dX12_better_53 rfl ?_
      refine j_invS (As := [.inl l2]) dX12_better_54 msRX12_350 mbX12_bits rfl rfl (Nat.le_of_ble_eq_true rfl) (Nat.le_of_ble_eq_true rfl) (by omega) (k_X12_bits (d := d + 1)  h) ?_
      rintro _ zM8 zN9 ⟨zr7, rfl, h⟩
      refine j_icmp_eq (tgt := 63) dX12_better_57 (by decide) (fun hc => ?_) (fun hc => ?_)
      · replace h := h.1 hc
        refine j_iinc 3 dX12_better_63 rfl rfl (by decide) rfl ?_
        refine j_iload 4 dX12_better_66 rfl ?_
        refine j_aload_n 1 dX12_better_68 rfl ?_
        refine j_iload 5 dX12_better_69 rfl ?_
        refine j_invV (As := [.inl l5]) dX12_better_71 msRX12_356 mbX12_leadOf rfl rfl (Nat.le_of_ble_eq_true rfl) (Nat.le_of_ble_eq_true rfl) (by omega) (h3 0 (by decide)) rfl rfl (k_X12_leadOf (d := d + 0) h3 h) ?_
        rintro _ zM11 zN12 ⟨zr10, rfl, h⟩
        refine j_aload_n 1 dX12_better_74 rfl ?_
        refine j_iload_n 3 dX12_better_75 rfl ?_
        refine j_invV (As := [.inl l2]) dX12_better_76 msRX12_356 mbX12_leadOf rfl rfl (Nat.le_of_ble_eq_true rfl) (Nat.le_of_ble_eq_true rfl) (by omega) (h3 0 (by decide)) rfl rfl (k_X12_leadOf (d := d + 0) h3 h) ?_
        rintro _ zM14 zN15 ⟨zr13, rfl, h⟩
        refine j_icmp_lt (tgt := 86) dX12_better_79 (by decide) (fun hc => ?_) (fun hc => ?_)
        · replace h := h.1 hc
          refine j_iconst (v := 0) dX12_better_86 (by decide) ?_
          refine j_sub [1, 2, 3, 0, 5] rfl ?_
          exact k_X12_better_p87 h3 zih _ _ _ _ _ _ _ _ h
        · replace h := h.2 hc
          refine j_iconst (v := 1) dX12_better_82 (by decide) ?_
          refine j_goto (tgt := 87) dX12_better_83 (by decide) ?_
          refine j_sub [1, 2, 3, 0, 5] rfl ?_
          exact k_X12_better_p87 h3 zih _ _ _ _ _ _ _ _ h
      · replace h := h.2 hc
        refine j_goto (tgt := 93) dX12_better_60 (by decide) ?_
        refine j_iinc 5 dX12_better_93 rfl rfl (by decide) rfl ?_
        refine j_goto (tgt := 37) dX12_better_96 (by decide) ?_
        refine j_sub [1, 2, 3, 4, 5, 0] rfl ?_
        exact zih _ _ _ _ _ _ _ h
def w_X12_better_p4_b (post : Int32 → am_I → am_N → Prop) (zk4 : Int32 → Int32 → Int32 → am_I → am_N → Prop) (l1 : Int32) (l2 : Int32) (l3 : Int32) (M : am_I) (N : am_N) : Prop :=
  (((M (3, 0, 0) 42) ≤ l3 → ∃ n, w_X12_better_p37 post n l1 l2 0 0 0 M N) ∧ (¬ (M (3, 0, 0) 42) ≤ l3 → vp_in l3 12 ∧ ∀ zv1 : Int32, zv1 = l2 ||| ((M (3, 0, 32) l3.toNatClampNeg) <<< (l3 &&& 31)) → zk4 l1 zv1 (l3 + 1) M N))
noncomputable def w_X12_better_p4 (post : Int32 → am_I → am_N → Prop) (n : Nat) : Int32 → Int32 → Int32 → am_I → am_N → Prop :=
  Nat.rec (motive := fun _ => Int32 → Int32 → Int32 → am_I → am_N → Prop) (fun _ _ _ _ _ => False) (fun _ zk => w_X12_better_p4_b post zk) n
theorem w_X12_better_p4_s (post : Int32 → am_I → am_N → Prop) (n : Nat) (l1 : Int32) (l2 : Int32) (l3 : Int32) (M : am_I) (N : am_N) : w_X12_better_p4 post (n + 1) l1 l2 l3 M N = w_X12_better_p4_b post (w_X12_better_p4 post n) l1 l2 l3 M N := rfl
set_option maxRecDepth 10000 in
theorem k_X12_better_p4 {d : Nat} {dm : List am_C} (h3 : am_d3 dm) {post : Int32 → am_I → am_N → Prop} : ∀ (n : Nat) (l1 : Int32) (l2 : Int32) (l3 : Int32) (M : am_I) (N : am_N), w_X12_better_p4 post n l1 l2 l3 M N → jg (d + 3) mX12_better dm 4 [(0, .inr (.inr (3, 0, 0))), (1, .inl l1), (2, .inl l2), (3, .inl l3)] [] M N (am_pi post) := by
  intro n
  induction n with
  | zero => intro l1 l2 l3 M N h; exact h.elim
  | succ n zih =>
    intro l1 l2 l3 M N h
    replace h : w_X12_better_p4_b post (w_X12_better_p4 post n) l1 l2 l3 M N := h
    refine j_iload_n 3 dX12_better_4 rfl ?_
    refine j_aload_n 0 dX12_better_5 rfl ?_
    refine j_getI dX12_better_6 fsRX12_353 (h3 0 (by decide)) rfl ?_
    refine j_icmp_ge (tgt := 29) dX12_better_9 (by decide) (fun hc => ?_) (fun hc => ?_)
    · replace h := h.1 hc
      refine j_iconst (v := 0) dX12_better_29 (by decide) ?_
      refine j_istore_n dX12_better_30 (by decide) rfl ?_
      refine j_iconst (v := 0) dX12_better_31 (by decide) ?_
      refine j_istore dX12_better_32 (by decide) rfl ?_
      refine j_iconst (v := 0) dX12_better_34 (by decide) ?_
      refine j_istore dX12_better_35 (by decide) rfl ?_
      refine j_sub [3, 4, 5, 2, 1, 0] rfl ?_
      obtain ⟨n, h⟩ := h
      exact k_X12_better_p37 h3 n _ _ _ _ _ _ _ h
    · replace h := h.2 hc
      refine j_iload_n 2 dX12_better_12 rfl ?_
      refine j_aload_n 0 dX12_better_13 rfl ?_
      refine j_getR (b := (3, 0, 32)) dX12_better_14 fsRX12_109 (h3 0 (by decide)) rfl rfl ?_
      refine j_iload_n 3 dX12_better_17 rfl ?_
      obtain ⟨hq, h⟩ := h
      refine j_iald dX12_better_18 (h3 32 (by decide)) rfl hq ?_
      refine j_iload_n 3 dX12_better_19 rfl ?_
      refine j_ishl dX12_better_20 ?_
      refine j_ior dX12_better_21 ?_
      refine j_topi (fun zv1 hzv1 => ?_)
      replace h := h zv1 hzv1
      refine j_istore_n dX12_better_22 (by decide) rfl ?_
      refine j_iinc 3 dX12_better_23 rfl rfl (by decide) rfl ?_
      refine j_goto (tgt := 4) dX12_better_26 (by decide) ?_
      refine j_sub [2, 3, 1, 0] rfl ?_
      exact zih _ _ _ _ _ h
def w_X12_better (a1 : Int32) (M : am_I) (N : am_N) (post : Int32 → am_I → am_N → Prop) : Prop :=
  ∃ n, w_X12_better_p4 post n a1 0 0 M N
set_option maxRecDepth 10000 in
theorem k_X12_better {d : Nat} {dm : List am_C} (h3 : am_d3 dm) {a1 : Int32} {M : am_I} {N : am_N} {post : Int32 → am_I → am_N → Prop} (h : w_X12_better a1 M N post) : jg (d + 3) mX12_better dm 0 [(0, .inr (.inr (3, 0, 0))), (1, .inl a1)] [] M N (am_pi post) := by
  refine j_iconst (v := 0) dX12_better_0 (by decide) ?_
  refine j_istore_n dX12_better_1 (by decide) rfl ?_
  refine j_iconst (v := 0) dX12_better_2 (by decide) ?_
  refine j_istore_n dX12_better_3 (by decide) rfl ?_
  refine j_sub [2, 3, 1, 0] rfl ?_
  obtain ⟨n, h⟩ := h
  exact k_X12_better_p4 h3 n _ _ _ _ _ h
def w_X12_four_p3_b (post : am_I → am_N → Prop) (zk3 : Int32 → Int32 → am_I → am_N → Prop) (l1 : Int32) (l2 : Int32) (M : am_I) (N : am_N) : Prop :=
  ((l2 < 0 → post M N) ∧ (¬ l2 < 0 → vp_in (M (3, 0, 0) 47) 500 ∧ zk3 l1 (l2 + (-8)) (am_u (am_u M (3, 0, 43) (M (3, 0, 0) 47).toNatClampNeg (vp_nar .byte ((l1 >>> (l2 &&& 31)).toInt8.toInt32))) (3, 0, 0) 47 (((am_u M (3, 0, 43) (M (3, 0, 0) 47).toNatClampNeg (vp_nar .byte ((l1 >>> (l2 &&& 31)).toInt8.toInt32))) (3, 0, 0) 47) + 1)) N))
noncomputable def w_X12_four_p3 (post : am_I → am_N → Prop) (n : Nat) : Int32 → Int32 → am_I → am_N → Prop :=
  Nat.rec (motive := fun _ => Int32 → Int32 → am_I → am_N → Prop) (fun _ _ _ _ => False) (fun _ zk => w_X12_four_p3_b post zk) n
theorem w_X12_four_p3_s (post : am_I → am_N → Prop) (n : Nat) (l1 : Int32) (l2 : Int32) (M : am_I) (N : am_N) : w_X12_four_p3 post (n + 1) l1 l2 M N = w_X12_four_p3_b post (w_X12_four_p3 post n) l1 l2 M N := rfl
set_option maxRecDepth 10000 in
theorem k_X12_four_p3 {d : Nat} {dm : List am_C} (h3 : am_d3 dm) {post : am_I → am_N → Prop} : ∀ (n : Nat) (l1 : Int32) (l2 : Int32) (M : am_I) (N : am_N), w_X12_four_p3 post n l1 l2 M N → jg (d + 1) mX12_four dm 3 [(0, .inr (.inr (3, 0, 0))), (1, .inl l1), (2, .inl l2)] [] M N (am_pv post) := by
  intro n
  induction n with
  | zero => intro l1 l2 M N h; exact h.elim
  | succ n zih =>
    intro l1 l2 M N h
    replace h : w_X12_four_p3_b post (w_X12_four_p3 post n) l1 l2 M N := h
    refine j_iload_n 2 dX12_four_3 rfl ?_
    refine j_if_lt (tgt := 36) dX12_four_4 (by decide) (fun hc => ?_) (fun hc => ?_)
    · replace h := h.1 hc
      exact j_vret dX12_four_36 rfl ⟨rfl, h⟩
    · replace h := h.2 hc
      refine j_aload_n 0 dX12_four_7 rfl ?_
      refine j_getR (b := (3, 0, 43)) dX12_four_8 fsRX12_145 (h3 0 (by decide)) rfl rfl ?_
      refine j_aload_n 0 dX12_four_11 rfl ?_
      refine j_getI dX12_four_12 fsRX12_360 (h3 0 (by decide)) rfl ?_
      refine j_iload_n 1 dX12_four_15 rfl ?_
      refine j_iload_n 2 dX12_four_16 rfl ?_
      refine j_ishr dX12_four_17 ?_
      refine j_i2b dX12_four_18 ?_
      obtain ⟨hq, h⟩ := h
      refine j_bast dX12_four_19 (h3 43 (by decide)) rfl hq ?_
      refine j_aload_n 0 dX12_four_20 rfl ?_
      refine j_dup dX12_four_21 rfl ?_
      refine j_getI dX12_four_22 fsRX12_360 (h3 0 (by decide)) rfl ?_
      refine j_iconst (v := 1) dX12_four_25 (by decide) ?_
      refine j_iadd dX12_four_26 ?_
      refine j_putI dX12_four_27 fwRX12_360 (h3 0 (by decide)) rfl ?_
      refine j_iinc 2 dX12_four_30 rfl rfl (by decide) rfl ?_
      refine j_goto (tgt := 3) dX12_four_33 (by decide) ?_
      refine j_sub [1, 2, 0] rfl ?_
      exact zih _ _ _ _ h
def w_X12_four (a1 : Int32) (M : am_I) (N : am_N) (post : am_I → am_N → Prop) : Prop :=
  ∃ n, w_X12_four_p3 post n a1 24 M N
set_option maxRecDepth 10000 in
theorem k_X12_four {d : Nat} {dm : List am_C} (h3 : am_d3 dm) {a1 : Int32} {M : am_I} {N : am_N} {post : am_I → am_N → Prop} (h : w_X12_four a1 M N post) : jg (d + 1) mX12_four dm 0 [(0, .inr (.inr (3, 0, 0))), (1, .inl a1)] [] M N (am_pv post) := by
  refine j_bipush (v := 24) dX12_four_0 (by decide) ?_
  refine j_istore_n dX12_four_2 (by decide) rfl ?_
  refine j_sub [1, 2, 0] rfl ?_
  obtain ⟨n, h⟩ := h
  exact k_X12_four_p3 h3 n _ _ _ _ h
def w_X12_blanks_p39 (post : am_I → am_N → Prop) (zk0 : am_I → am_N → Prop) (M : am_I) (N : am_N) : Prop :=
  zk0 (am_u M (3, 0, 0) 49 ((M (3, 0, 0) 49) + 1)) N
set_option maxRecDepth 10000 in
theorem k_X12_blanks_p39 {d : Nat} {dm : List am_C} (h3 : am_d3 dm) {post : am_I → am_N → Prop} {zk0 : am_I → am_N → Prop} (zhk0 : ∀  (M : am_I) (N : am_N), zk0  M N → jg (d + 1) mX12_blanks dm 0 [(0, .inr (.inr (3, 0, 0)))] [] M N (am_pv post)) (M : am_I) (N : am_N) (h : w_X12_blanks_p39 post zk0  M N) : jg (d + 1) mX12_blanks dm 39 [(0, .inr (.inr (3, 0, 0)))] [] M N (am_pv post) := by
  refine j_aload_n 0 dX12_blanks_39 rfl ?_
  refine j_dup dX12_blanks_40 rfl ?_
  refine j_getI dX12_blanks_41 fsRX12_366 (h3 0 (by decide)) rfl ?_
  refine j_iconst (v := 1) dX12_blanks_44 (by decide) ?_
  refine j_iadd dX12_blanks_45 ?_
  refine j_putI dX12_blanks_46 fwRX12_366 (h3 0 (by decide)) rfl ?_
  refine j_goto (tgt := 0) dX12_blanks_49 (by decide) ?_
  refine j_sub [0] rfl ?_
  exact zhk0 _ _ h
def w_X12_blanks_p0_b (post : am_I → am_N → Prop) (zk0 : am_I → am_N → Prop) (M : am_I) (N : am_N) : Prop :=
  (((M (3, 0, 0) 48) ≤ (M (3, 0, 0) 49) → post M N) ∧ (¬ (M (3, 0, 0) 48) ≤ (M (3, 0, 0) 49) → vp_in (M (3, 0, 0) 49) 500 ∧ (((M (3, 0, 44) (M (3, 0, 0) 49).toNatClampNeg) = 32 → w_X12_blanks_p39 post zk0 M N) ∧ (¬ (M (3, 0, 44) (M (3, 0, 0) 49).toNatClampNeg) = 32 → vp_in (M (3, 0, 0) 49) 500 ∧ ((¬ (M (3, 0, 44) (M (3, 0, 0) 49).toNatClampNeg) = 10 → post M N) ∧ ((M (3, 0, 44) (M (3, 0, 0) 49).toNatClampNeg) = 10 → w_X12_blanks_p39 post zk0 M N))))))
noncomputable def w_X12_blanks_p0 (post : am_I → am_N → Prop) (n : Nat) : am_I → am_N → Prop :=
  Nat.rec (motive := fun _ => am_I → am_N → Prop) (fun _ _ => False) (fun _ zk => w_X12_blanks_p0_b post zk) n
theorem w_X12_blanks_p0_s (post : am_I → am_N → Prop) (n : Nat) (M : am_I) (N : am_N) : w_X12_blanks_p0 post (n + 1) M N = w_X12_blanks_p0_b post (w_X12_blanks_p0 post n) M N := rfl
set_option maxRecDepth 10000 in
theorem k_X12_blanks_p0 {d : Nat} {dm : List am_C} (h3 : am_d3 dm) {post : am_I → am_N → Prop} : ∀ (n : Nat)  (M : am_I) (N : am_N), w_X12_blanks_p0 post n  M N → jg (d + 1) mX12_blanks dm 0 [(0, .inr (.inr (3, 0, 0)))] [] M N (am_pv post) := by
  intro n
  induction n with
  | zero => intro  M N h; exact h.elim
  | succ n zih =>
    intro  M N h
    replace h : w_X12_blanks_p0_b post (w_X12_blanks_p0 post n)  M N := h
    refine j_aload_n 0 dX12_blanks_0 rfl ?_
    refine j_getI dX12_blanks_1 fsRX12_366 (h3 0 (by decide)) rfl ?_
    refine j_aload_n 0 dX12_blanks_4 rfl ?_
    refine j_getI dX12_blanks_5 fsRX12_369 (h3 0 (by decide)) rfl ?_
    refine j_icmp_ge (tgt := 52) dX12_blanks_8 (by decide) (fun hc => ?_) (fun hc => ?_)
    · replace h := h.1 hc
      exact j_vret dX12_blanks_52 rfl ⟨rfl, h⟩
    · replace h := h.2 hc
      refine j_aload_n 0 dX12_blanks_11 rfl ?_
      refine j_getR (b := (3, 0, 44)) dX12_blanks_12 fsRX12_149 (h3 0 (by decide)) rfl rfl ?_
      refine j_aload_n 0 dX12_blanks_15 rfl ?_
      refine j_getI dX12_blanks_16 fsRX12_366 (h3 0 (by decide)) rfl ?_
      obtain ⟨hq, h⟩ := h
      refine j_bald dX12_blanks_19 (h3 44 (by decide)) rfl hq ?_
      refine j_bipush (v := 32) dX12_blanks_20 (by decide) ?_
      refine j_icmp_eq (tgt := 39) dX12_blanks_22 (by decide) (fun hc => ?_) (fun hc => ?_)
      · replace h := h.1 hc
        refine j_sub [0] rfl ?_
        exact k_X12_blanks_p39 h3 zih _ _ h
      · replace h := h.2 hc
        refine j_aload_n 0 dX12_blanks_25 rfl ?_
        refine j_getR (b := (3, 0, 44)) dX12_blanks_26 fsRX12_149 (h3 0 (by decide)) rfl rfl ?_
        refine j_aload_n 0 dX12_blanks_29 rfl ?_
        refine j_getI dX12_blanks_30 fsRX12_366 (h3 0 (by decide)) rfl ?_
        obtain ⟨hq, h⟩ := h
        refine j_bald dX12_blanks_33 (h3 44 (by decide)) rfl hq ?_
        refine j_bipush (v := 10) dX12_blanks_34 (by decide) ?_
        refine j_icmp_ne (tgt := 52) dX12_blanks_36 (by decide) (fun hc => ?_) (fun hc => ?_)
        · replace h := h.1 hc
          exact j_vret dX12_blanks_52 rfl ⟨rfl, h⟩
        · replace h := h.2 hc
          refine j_sub [0] rfl ?_
          exact k_X12_blanks_p39 h3 zih _ _ h
def w_X12_blanks (M : am_I) (N : am_N) (post : am_I → am_N → Prop) : Prop :=
  ∃ n, w_X12_blanks_p0 post n M N
set_option maxRecDepth 10000 in
theorem k_X12_blanks {d : Nat} {dm : List am_C} (h3 : am_d3 dm) {M : am_I} {N : am_N} {post : am_I → am_N → Prop} (h : w_X12_blanks M N post) : jg (d + 1) mX12_blanks dm 0 [(0, .inr (.inr (3, 0, 0)))] [] M N (am_pv post) := by
  refine j_sub [0] rfl ?_
  obtain ⟨n, h⟩ := h
  exact k_X12_blanks_p0 h3 n _ _ h
def w_X12_word_p100 (post : Int64 → am_I → am_N → Prop) (l1 : Int64) (M : am_I) (N : am_N) : Prop :=
  ((((M (3, 0, 0) 63) - (M (3, 0, 0) 49)) ≤ 7 → post l1 M N) ∧ (¬ ((M (3, 0, 0) 63) - (M (3, 0, 0) 49)) ≤ 7 → post 0 M N))
set_option maxRecDepth 10000 in
theorem k_X12_word_p100 {d : Nat} {dm : List am_C} (h3 : am_d3 dm) {post : Int64 → am_I → am_N → Prop} (l1 : Int64) (M : am_I) (N : am_N) (h : w_X12_word_p100 post l1 M N) : jg (d + 2) mX12_word dm 100 [(0, .inr (.inr (3, 0, 0))), (1, .inr (.inl l1))] [] M N (am_pl post) := by
  refine j_aload_n 0 dX12_word_100 rfl ?_
  refine j_getI dX12_word_101 fsRX12_375 (h3 0 (by decide)) rfl ?_
  refine j_aload_n 0 dX12_word_104 rfl ?_
  refine j_getI dX12_word_105 fsRX12_366 (h3 0 (by decide)) rfl ?_
  refine j_isub dX12_word_108 ?_
  refine j_bipush (v := 7) dX12_word_109 (by decide) ?_
  refine j_icmp_le (tgt := 118) dX12_word_111 (by decide) (fun hc => ?_) (fun hc => ?_)
  · replace h := h.1 hc
    refine j_lload_n 1 dX12_word_118 rfl ?_
    exact j_lret dX12_word_119 rfl ⟨_, rfl, h⟩
  · replace h := h.2 hc
    refine j_lconst (v := 0) dX12_word_114 (by decide) ?_
    refine j_goto (tgt := 119) dX12_word_115 (by decide) ?_
    exact j_lret dX12_word_119 rfl ⟨_, rfl, h⟩
def w_X12_word_p86 (post : Int64 → am_I → am_N → Prop) (zk14 : Int64 → am_I → am_N → Prop) (s0 : Int64) (M : am_I) (N : am_N) : Prop :=
  zk14 s0 (am_u M (3, 0, 0) 63 ((M (3, 0, 0) 63) + 1)) N
set_option maxRecDepth 10000 in
theorem k_X12_word_p86 {d : Nat} {dm : List am_C} (h3 : am_d3 dm) {post : Int64 → am_I → am_N → Prop} {zk14 : Int64 → am_I → am_N → Prop} (zhk14 : ∀ (l1 : Int64) (M : am_I) (N : am_N), zk14 l1 M N → jg (d + 2) mX12_word dm 14 [(0, .inr (.inr (3, 0, 0))), (1, .inr (.inl l1))] [] M N (am_pl post)) (s0 : Int64) (M : am_I) (N : am_N) (h : w_X12_word_p86 post zk14 s0 M N) : jg (d + 2) mX12_word dm 86 [(0, .inr (.inr (3, 0, 0)))] [.inr (.inl s0)] M N (am_pl post) := by
  refine j_lstore_n dX12_word_86 (by decide) rfl ?_
  refine j_aload_n 1 dX12_word_87 rfl ?_
  refine j_dup dX12_word_88 rfl ?_
  refine j_getI dX12_word_89 fsRX12_375 (h3 0 (by decide)) rfl ?_
  refine j_iconst (v := 1) dX12_word_92 (by decide) ?_
  refine j_iadd dX12_word_93 ?_
  refine j_putI dX12_word_94 fwRX12_375 (h3 0 (by decide)) rfl ?_
  refine j_goto (tgt := 14) dX12_word_97 (by decide) ?_
  refine j_sub [1, 0] rfl ?_
  exact zhk14 _ _ _ h
def w_X12_word_p14_b (post : Int64 → am_I → am_N → Prop) (zk14 : Int64 → am_I → am_N → Prop) (l1 : Int64) (M : am_I) (N : am_N) : Prop :=
  (((M (3, 0, 0) 48) ≤ (M (3, 0, 0) 63) → w_X12_word_p100 post l1 M N) ∧ (¬ (M (3, 0, 0) 48) ≤ (M (3, 0, 0) 63) → vp_in (M (3, 0, 0) 63) 500 ∧ (((M (3, 0, 44) (M (3, 0, 0) 63).toNatClampNeg) < 97 → w_X12_word_p100 post l1 M N) ∧ (¬ (M (3, 0, 44) (M (3, 0, 0) 63).toNatClampNeg) < 97 → vp_in (M (3, 0, 0) 63) 500 ∧ ((122 < (M (3, 0, 44) (M (3, 0, 0) 63).toNatClampNeg) → w_X12_word_p100 post l1 M N) ∧ (¬ 122 < (M (3, 0, 44) (M (3, 0, 0) 63).toNatClampNeg) → ((7 ≤ ((M (3, 0, 0) 63) - (M (3, 0, 0) 49)) → w_X12_word_p86 post zk14 0 M N) ∧ (¬ 7 ≤ ((M (3, 0, 0) 63) - (M (3, 0, 0) 49)) → vp_in (M (3, 0, 0) 63) 500 ∧ w_X12_word_p86 post zk14 ((l1 <<< ((8 : Int32).toInt64 &&& 63)) ||| ((M (3, 0, 44) (M (3, 0, 0) 63).toNatClampNeg).toInt64)) M N))))))))
noncomputable def w_X12_word_p14 (post : Int64 → am_I → am_N → Prop) (n : Nat) : Int64 → am_I → am_N → Prop :=
  Nat.rec (motive := fun _ => Int64 → am_I → am_N → Prop) (fun _ _ _ => False) (fun _ zk => w_X12_word_p14_b post zk) n
theorem w_X12_word_p14_s (post : Int64 → am_I → am_N → Prop) (n : Nat) (l1 : Int64) (M : am_I) (N : am_N) : w_X12_word_p14 post (n + 1) l1 M N = w_X12_word_p14_b post (w_X12_word_p14 post n) l1 M N := rfl
set_option maxRecDepth 10000 in
theorem k_X12_word_p14 {d : Nat} {dm : List am_C} (h3 : am_d3 dm) {post : Int64 → am_I → am_N → Prop} : ∀ (n : Nat) (l1 : Int64) (M : am_I) (N : am_N), w_X12_word_p14 post n l1 M N → jg (d + 2) mX12_word dm 14 [(0, .inr (.inr (3, 0, 0))), (1, .inr (.inl l1))] [] M N (am_pl post) := by
  intro n
  induction n with
  | zero => intro l1 M N h; exact h.elim
  | succ n zih =>
    intro l1 M N h
    replace h : w_X12_word_p14_b post (w_X12_word_p14 post n) l1 M N := h
    refine j_aload_n 0 dX12_word_14 rfl ?_
    refine j_getI dX12_word_15 fsRX12_375 (h3 0 (by decide)) rfl ?_
    refine j_aload_n 0 dX12_word_18 rfl ?_
    refine j_getI dX12_word_19 fsRX12_369 (h3 0 (by decide)) rfl ?_
    refine j_icmp_ge (tgt := 100) dX12_word_22 (by decide) (fun hc => ?_) (fun hc => ?_)
    · replace h := h.1 hc
      refine j_sub [0, 1] rfl ?_
      exact k_X12_word_p100 h3 _ _ _ h
    · replace h := h.2 hc
      refine j_aload_n 0 dX12_word_25 rfl ?_
      refine j_getR (b := (3, 0, 44)) dX12_word_26 fsRX12_149 (h3 0 (by decide)) rfl rfl ?_
      refine j_aload_n 0 dX12_word_29 rfl ?_
      refine j_getI dX12_word_30 fsRX12_375 (h3 0 (by decide)) rfl ?_
      obtain ⟨hq, h⟩ := h
      refine j_bald dX12_word_33 (h3 44 (by decide)) rfl hq ?_
      refine j_bipush (v := 97) dX12_word_34 (by decide) ?_
      refine j_icmp_lt (tgt := 100) dX12_word_36 (by decide) (fun hc => ?_) (fun hc => ?_)
      · replace h := h.1 hc
        refine j_sub [0, 1] rfl ?_
        exact k_X12_word_p100 h3 _ _ _ h
      · replace h := h.2 hc
        refine j_aload_n 0 dX12_word_39 rfl ?_
        refine j_getR (b := (3, 0, 44)) dX12_word_40 fsRX12_149 (h3 0 (by decide)) rfl rfl ?_
        refine j_aload_n 0 dX12_word_43 rfl ?_
        refine j_getI dX12_word_44 fsRX12_375 (h3 0 (by decide)) rfl ?_
        obtain ⟨hq, h⟩ := h
        refine j_bald dX12_word_47 (h3 44 (by decide)) rfl hq ?_
        refine j_bipush (v := 122) dX12_word_48 (by decide) ?_
        refine j_icmp_gt (tgt := 100) dX12_word_50 (by decide) (fun hc => ?_) (fun hc => ?_)
        · replace h := h.1 hc
          refine j_sub [0, 1] rfl ?_
          exact k_X12_word_p100 h3 _ _ _ h
        · replace h := h.2 hc
          refine j_aload_n 0 dX12_word_53 rfl ?_
          refine j_getI dX12_word_54 fsRX12_375 (h3 0 (by decide)) rfl ?_
          refine j_aload_n 0 dX12_word_57 rfl ?_
          refine j_getI dX12_word_58 fsRX12_366 (h3 0 (by decide)) rfl ?_
          refine j_isub dX12_word_61 ?_
          refine j_bipush (v := 7) dX12_word_62 (by decide) ?_
          refine j_icmp_ge (tgt := 85) dX12_word_64 (by decide) (fun hc => ?_) (fun hc => ?_)
          · replace h := h.1 hc
            refine j_lconst (v := 0) dX12_word_85 (by decide) ?_
            refine j_sub [0] rfl ?_
            exact k_X12_word_p86 h3 zih _ _ _ h
          · replace h := h.2 hc
            refine j_lload_n 1 dX12_word_67 rfl ?_
            refine j_bipush (v := 8) dX12_word_68 (by decide) ?_
            refine j_lshl dX12_word_70 ?_
            refine j_aload_n 0 dX12_word_71 rfl ?_
            refine j_getR (b := (3, 0, 44)) dX12_word_72 fsRX12_149 (h3 0 (by decide)) rfl rfl ?_
            refine j_aload_n 0 dX12_word_75 rfl ?_
            refine j_getI dX12_word_76 fsRX12_375 (h3 0 (by decide)) rfl ?_
            obtain ⟨hq, h⟩ := h
            refine j_bald dX12_word_79 (h3 44 (by decide)) rfl hq ?_
            refine j_i2l dX12_word_80 ?_
            refine j_lor dX12_word_81 ?_
            refine j_goto (tgt := 86) dX12_word_82 (by decide) ?_
            refine j_sub [0] rfl ?_
            exact k_X12_word_p86 h3 zih _ _ _ h
def w_X12_word (M : am_I) (N : am_N) (post : Int64 → am_I → am_N → Prop) : Prop :=
  w_X12_blanks M N (fun zM1 zN2 => ∃ n, w_X12_word_p14 post n 0 (am_u zM1 (3, 0, 0) 63 (zM1 (3, 0, 0) 49)) zN2)
set_option maxRecDepth 10000 in
theorem k_X12_word {d : Nat} {dm : List am_C} (h3 : am_d3 dm) {M : am_I} {N : am_N} {post : Int64 → am_I → am_N → Prop} (h : w_X12_word M N post) : jg (d + 2) mX12_word dm 0 [(0, .inr (.inr (3, 0, 0)))] [] M N (am_pl post) := by
  refine j_aload_n 0 dX12_word_0 rfl ?_
  refine j_invV (As := []) dX12_word_1 msRX12_372 mbX12_blanks rfl rfl (Nat.le_of_ble_eq_true rfl) (Nat.le_of_ble_eq_true rfl) (by omega) (h3 0 (by decide)) rfl rfl (k_X12_blanks (d := d + 0) h3 h) ?_
  rintro _ zM1 zN2 ⟨rfl, h⟩
  refine j_aload_n 0 dX12_word_4 rfl ?_
  refine j_aload_n 0 dX12_word_5 rfl ?_
  refine j_getI dX12_word_6 fsRX12_366 (h3 0 (by decide)) rfl ?_
  refine j_putI dX12_word_9 fwRX12_375 (h3 0 (by decide)) rfl ?_
  refine j_lconst (v := 0) dX12_word_12 (by decide) ?_
  refine j_lstore_n dX12_word_13 (by decide) rfl ?_
  refine j_sub [1, 0] rfl ?_
  obtain ⟨n, h⟩ := h
  exact k_X12_word_p14 h3 n _ _ _ h
def w_X12_takes (a1 : Int64) (M : am_I) (N : am_N) (post : Int32 → am_I → am_N → Prop) : Prop :=
  w_X12_word M N (fun zr1 zM2 zN3 => ((zr1 = a1 → post 1 (am_u zM2 (3, 0, 0) 49 (zM2 (3, 0, 0) 63)) zN3) ∧ (¬ zr1 = a1 → post 0 zM2 zN3)))
set_option maxRecDepth 10000 in
theorem k_X12_takes {d : Nat} {dm : List am_C} (h3 : am_d3 dm) {a1 : Int64} {M : am_I} {N : am_N} {post : Int32 → am_I → am_N → Prop} (h : w_X12_takes a1 M N post) : jg (d + 3) mX12_takes dm 0 [(0, .inr (.inr (3, 0, 0))), (1, .inr (.inl a1))] [] M N (am_pi post) := by
  refine j_aload_n 0 dX12_takes_0 rfl ?_
  refine j_invV (As := []) dX12_takes_1 msRX12_378 mbX12_word rfl rfl (Nat.le_of_ble_eq_true rfl) (Nat.le_of_ble_eq_true rfl) (by omega) (h3 0 (by decide)) rfl rfl (k_X12_word (d := d + 0) h3 h) ?_
  rintro _ zM2 zN3 ⟨zr1, rfl, h⟩
  refine j_lload_n 1 dX12_takes_4 rfl ?_
  refine j_lcmp_eq (tgt := 11) dX12_takes_5 dX12_takes_6 (by decide) (fun hc => ?_) (fun hc => ?_)
  · replace h := h.1 hc
    refine j_aload_n 0 dX12_takes_11 rfl ?_
    refine j_aload_n 0 dX12_takes_12 rfl ?_
    refine j_getI dX12_takes_13 fsRX12_375 (h3 0 (by decide)) rfl ?_
    refine j_putI dX12_takes_16 fwRX12_366 (h3 0 (by decide)) rfl ?_
    refine j_iconst (v := 1) dX12_takes_19 (by decide) ?_
    exact j_zret dX12_takes_20 rfl (Or.inr rfl) ⟨_, rfl, h⟩
  · replace h := h.2 hc
    refine j_iconst (v := 0) dX12_takes_9 (by decide) ?_
    exact j_zret dX12_takes_10 rfl (Or.inl rfl) ⟨_, rfl, h⟩
def w_X12_takesSign (a1 : Int32) (M : am_I) (N : am_N) (post : Int32 → am_I → am_N → Prop) : Prop :=
  w_X12_blanks M N (fun zM1 zN2 => (((zM1 (3, 0, 0) 49) = (zM1 (3, 0, 0) 48) → post 0 zM1 zN2) ∧ (¬ (zM1 (3, 0, 0) 49) = (zM1 (3, 0, 0) 48) → vp_in (zM1 (3, 0, 0) 49) 500 ∧ (((zM1 (3, 0, 44) (zM1 (3, 0, 0) 49).toNatClampNeg) = a1 → post 1 (am_u zM1 (3, 0, 0) 49 ((zM1 (3, 0, 0) 49) + 1)) zN2) ∧ (¬ (zM1 (3, 0, 44) (zM1 (3, 0, 0) 49).toNatClampNeg) = a1 → post 0 zM1 zN2)))))
set_option maxRecDepth 10000 in
theorem k_X12_takesSign {d : Nat} {dm : List am_C} (h3 : am_d3 dm) {a1 : Int32} {M : am_I} {N : am_N} {post : Int32 → am_I → am_N → Prop} (h : w_X12_takesSign a1 M N post) : jg (d + 2) mX12_takesSign dm 0 [(0, .inr (.inr (3, 0, 0))), (1, .inl a1)] [] M N (am_pi post) := by
  refine j_aload_n 0 dX12_takesSign_0 rfl ?_
  refine j_invV (As := []) dX12_takesSign_1 msRX12_372 mbX12_blanks rfl rfl (Nat.le_of_ble_eq_true rfl) (Nat.le_of_ble_eq_true rfl) (by omega) (h3 0 (by decide)) rfl rfl (k_X12_blanks (d := d + 0) h3 h) ?_
  rintro _ zM1 zN2 ⟨rfl, h⟩
  refine j_aload_n 0 dX12_takesSign_4 rfl ?_
  refine j_getI dX12_takesSign_5 fsRX12_366 (h3 0 (by decide)) rfl ?_
  refine j_aload_n 0 dX12_takesSign_8 rfl ?_
  refine j_getI dX12_takesSign_9 fsRX12_369 (h3 0 (by decide)) rfl ?_
  refine j_icmp_eq (tgt := 28) dX12_takesSign_12 (by decide) (fun hc => ?_) (fun hc => ?_)
  · replace h := h.1 hc
    refine j_iconst (v := 0) dX12_takesSign_28 (by decide) ?_
    exact j_zret dX12_takesSign_29 rfl (Or.inl rfl) ⟨_, rfl, h⟩
  · replace h := h.2 hc
    refine j_aload_n 0 dX12_takesSign_15 rfl ?_
    refine j_getR (b := (3, 0, 44)) dX12_takesSign_16 fsRX12_149 (h3 0 (by decide)) rfl rfl ?_
    refine j_aload_n 0 dX12_takesSign_19 rfl ?_
    refine j_getI dX12_takesSign_20 fsRX12_366 (h3 0 (by decide)) rfl ?_
    obtain ⟨hq, h⟩ := h
    refine j_bald dX12_takesSign_23 (h3 44 (by decide)) rfl hq ?_
    refine j_iload_n 1 dX12_takesSign_24 rfl ?_
    refine j_icmp_eq (tgt := 30) dX12_takesSign_25 (by decide) (fun hc => ?_) (fun hc => ?_)
    · replace h := h.1 hc
      refine j_aload_n 0 dX12_takesSign_30 rfl ?_
      refine j_dup dX12_takesSign_31 rfl ?_
      refine j_getI dX12_takesSign_32 fsRX12_366 (h3 0 (by decide)) rfl ?_
      refine j_iconst (v := 1) dX12_takesSign_35 (by decide) ?_
      refine j_iadd dX12_takesSign_36 ?_
      refine j_putI dX12_takesSign_37 fwRX12_366 (h3 0 (by decide)) rfl ?_
      refine j_iconst (v := 1) dX12_takesSign_40 (by decide) ?_
      exact j_zret dX12_takesSign_41 rfl (Or.inr rfl) ⟨_, rfl, h⟩
    · replace h := h.2 hc
      refine j_iconst (v := 0) dX12_takesSign_28 (by decide) ?_
      exact j_zret dX12_takesSign_29 rfl (Or.inl rfl) ⟨_, rfl, h⟩
def w_X12_takesNumber_p81 (post : Int32 → am_I → am_N → Prop) (l1 : Int32) (M : am_I) (N : am_N) : Prop :=
  ((l1 = (M (3, 0, 0) 49) → post 0 M N) ∧ (¬ l1 = (M (3, 0, 0) 49) → (((l1 - (M (3, 0, 0) 49)) ≤ 5 → post 1 (am_u M (3, 0, 0) 49 l1) N) ∧ (¬ (l1 - (M (3, 0, 0) 49)) ≤ 5 → post 0 M N))))
set_option maxRecDepth 10000 in
theorem k_X12_takesNumber_p81 {d : Nat} {dm : List am_C} (h3 : am_d3 dm) {post : Int32 → am_I → am_N → Prop} (l1 : Int32) (M : am_I) (N : am_N) (h : w_X12_takesNumber_p81 post l1 M N) : jg (d + 2) mX12_takesNumber dm 81 [(0, .inr (.inr (3, 0, 0))), (1, .inl l1)] [] M N (am_pi post) := by
  refine j_iload_n 1 dX12_takesNumber_81 rfl ?_
  refine j_aload_n 0 dX12_takesNumber_82 rfl ?_
  refine j_getI dX12_takesNumber_83 fsRX12_366 (h3 0 (by decide)) rfl ?_
  refine j_icmp_eq (tgt := 99) dX12_takesNumber_86 (by decide) (fun hc => ?_) (fun hc => ?_)
  · replace h := h.1 hc
    refine j_iconst (v := 0) dX12_takesNumber_99 (by decide) ?_
    exact j_zret dX12_takesNumber_100 rfl (Or.inl rfl) ⟨_, rfl, h⟩
  · replace h := h.2 hc
    refine j_iload_n 1 dX12_takesNumber_89 rfl ?_
    refine j_aload_n 0 dX12_takesNumber_90 rfl ?_
    refine j_getI dX12_takesNumber_91 fsRX12_366 (h3 0 (by decide)) rfl ?_
    refine j_isub dX12_takesNumber_94 ?_
    refine j_iconst (v := 5) dX12_takesNumber_95 (by decide) ?_
    refine j_icmp_le (tgt := 101) dX12_takesNumber_96 (by decide) (fun hc => ?_) (fun hc => ?_)
    · replace h := h.1 hc
      refine j_aload_n 0 dX12_takesNumber_101 rfl ?_
      refine j_iload_n 1 dX12_takesNumber_102 rfl ?_
      refine j_putI dX12_takesNumber_103 fwRX12_366 (h3 0 (by decide)) rfl ?_
      refine j_iconst (v := 1) dX12_takesNumber_106 (by decide) ?_
      exact j_zret dX12_takesNumber_107 rfl (Or.inr rfl) ⟨_, rfl, h⟩
    · replace h := h.2 hc
      refine j_iconst (v := 0) dX12_takesNumber_99 (by decide) ?_
      exact j_zret dX12_takesNumber_100 rfl (Or.inl rfl) ⟨_, rfl, h⟩
def w_X12_takesNumber_p14_b (post : Int32 → am_I → am_N → Prop) (zk14 : Int32 → am_I → am_N → Prop) (l1 : Int32) (M : am_I) (N : am_N) : Prop :=
  (((M (3, 0, 0) 48) ≤ l1 → w_X12_takesNumber_p81 post l1 M N) ∧ (¬ (M (3, 0, 0) 48) ≤ l1 → vp_in l1 500 ∧ (((M (3, 0, 44) l1.toNatClampNeg) < 48 → w_X12_takesNumber_p81 post l1 M N) ∧ (¬ (M (3, 0, 44) l1.toNatClampNeg) < 48 → vp_in l1 500 ∧ ((57 < (M (3, 0, 44) l1.toNatClampNeg) → w_X12_takesNumber_p81 post l1 M N) ∧ (¬ 57 < (M (3, 0, 44) l1.toNatClampNeg) → ((5 ≤ (l1 - (M (3, 0, 0) 49)) → zk14 (l1 + 1) M N) ∧ (¬ 5 ≤ (l1 - (M (3, 0, 0) 49)) → vp_in l1 500 ∧ zk14 (l1 + 1) (am_u M (3, 0, 0) 64 (((10 * (M (3, 0, 0) 64)) + (M (3, 0, 44) l1.toNatClampNeg)) - 48)) N))))))))
noncomputable def w_X12_takesNumber_p14 (post : Int32 → am_I → am_N → Prop) (n : Nat) : Int32 → am_I → am_N → Prop :=
  Nat.rec (motive := fun _ => Int32 → am_I → am_N → Prop) (fun _ _ _ => False) (fun _ zk => w_X12_takesNumber_p14_b post zk) n
theorem w_X12_takesNumber_p14_s (post : Int32 → am_I → am_N → Prop) (n : Nat) (l1 : Int32) (M : am_I) (N : am_N) : w_X12_takesNumber_p14 post (n + 1) l1 M N = w_X12_takesNumber_p14_b post (w_X12_takesNumber_p14 post n) l1 M N := rfl
set_option maxRecDepth 10000 in
theorem k_X12_takesNumber_p14 {d : Nat} {dm : List am_C} (h3 : am_d3 dm) {post : Int32 → am_I → am_N → Prop} : ∀ (n : Nat) (l1 : Int32) (M : am_I) (N : am_N), w_X12_takesNumber_p14 post n l1 M N → jg (d + 2) mX12_takesNumber dm 14 [(0, .inr (.inr (3, 0, 0))), (1, .inl l1)] [] M N (am_pi post) := by
  intro n
  induction n with
  | zero => intro l1 M N h; exact h.elim
  | succ n zih =>
    intro l1 M N h
    replace h : w_X12_takesNumber_p14_b post (w_X12_takesNumber_p14 post n) l1 M N := h
    refine j_iload_n 1 dX12_takesNumber_14 rfl ?_
    refine j_aload_n 0 dX12_takesNumber_15 rfl ?_
    refine j_getI dX12_takesNumber_16 fsRX12_369 (h3 0 (by decide)) rfl ?_
    refine j_icmp_ge (tgt := 81) dX12_takesNumber_19 (by decide) (fun hc => ?_) (fun hc => ?_)
    · replace h := h.1 hc
      refine j_sub [0, 1] rfl ?_
      exact k_X12_takesNumber_p81 h3 _ _ _ h
    · replace h := h.2 hc
      refine j_aload_n 0 dX12_takesNumber_22 rfl ?_
      refine j_getR (b := (3, 0, 44)) dX12_takesNumber_23 fsRX12_149 (h3 0 (by decide)) rfl rfl ?_
      refine j_iload_n 1 dX12_takesNumber_26 rfl ?_
      obtain ⟨hq, h⟩ := h
      refine j_bald dX12_takesNumber_27 (h3 44 (by decide)) rfl hq ?_
      refine j_bipush (v := 48) dX12_takesNumber_28 (by decide) ?_
      refine j_icmp_lt (tgt := 81) dX12_takesNumber_30 (by decide) (fun hc => ?_) (fun hc => ?_)
      · replace h := h.1 hc
        refine j_sub [0, 1] rfl ?_
        exact k_X12_takesNumber_p81 h3 _ _ _ h
      · replace h := h.2 hc
        refine j_aload_n 0 dX12_takesNumber_33 rfl ?_
        refine j_getR (b := (3, 0, 44)) dX12_takesNumber_34 fsRX12_149 (h3 0 (by decide)) rfl rfl ?_
        refine j_iload_n 1 dX12_takesNumber_37 rfl ?_
        obtain ⟨hq, h⟩ := h
        refine j_bald dX12_takesNumber_38 (h3 44 (by decide)) rfl hq ?_
        refine j_bipush (v := 57) dX12_takesNumber_39 (by decide) ?_
        refine j_icmp_gt (tgt := 81) dX12_takesNumber_41 (by decide) (fun hc => ?_) (fun hc => ?_)
        · replace h := h.1 hc
          refine j_sub [0, 1] rfl ?_
          exact k_X12_takesNumber_p81 h3 _ _ _ h
        · replace h := h.2 hc
          refine j_iload_n 1 dX12_takesNumber_44 rfl ?_
          refine j_aload_n 0 dX12_takesNumber_45 rfl ?_
          refine j_getI dX12_takesNumber_46 fsRX12_366 (h3 0 (by decide)) rfl ?_
          refine j_isub dX12_takesNumber_49 ?_
          refine j_iconst (v := 5) dX12_takesNumber_50 (by decide) ?_
          refine j_icmp_ge (tgt := 75) dX12_takesNumber_51 (by decide) (fun hc => ?_) (fun hc => ?_)
          · replace h := h.1 hc
            refine j_iinc 1 dX12_takesNumber_75 rfl rfl (by decide) rfl ?_
            refine j_goto (tgt := 14) dX12_takesNumber_78 (by decide) ?_
            refine j_sub [1, 0] rfl ?_
            exact zih _ _ _ h
          · replace h := h.2 hc
            refine j_aload_n 0 dX12_takesNumber_54 rfl ?_
            refine j_bipush (v := 10) dX12_takesNumber_55 (by decide) ?_
            refine j_aload_n 0 dX12_takesNumber_57 rfl ?_
            refine j_getI dX12_takesNumber_58 fsRX12_382 (h3 0 (by decide)) rfl ?_
            refine j_imul dX12_takesNumber_61 ?_
            refine j_aload_n 0 dX12_takesNumber_62 rfl ?_
            refine j_getR (b := (3, 0, 44)) dX12_takesNumber_63 fsRX12_149 (h3 0 (by decide)) rfl rfl ?_
            refine j_iload_n 1 dX12_takesNumber_66 rfl ?_
            obtain ⟨hq, h⟩ := h
            refine j_bald dX12_takesNumber_67 (h3 44 (by decide)) rfl hq ?_
            refine j_iadd dX12_takesNumber_68 ?_
            refine j_bipush (v := 48) dX12_takesNumber_69 (by decide) ?_
            refine j_isub dX12_takesNumber_71 ?_
            refine j_putI dX12_takesNumber_72 fwRX12_382 (h3 0 (by decide)) rfl ?_
            refine j_iinc 1 dX12_takesNumber_75 rfl rfl (by decide) rfl ?_
            refine j_goto (tgt := 14) dX12_takesNumber_78 (by decide) ?_
            refine j_sub [1, 0] rfl ?_
            exact zih _ _ _ h
def w_X12_takesNumber (M : am_I) (N : am_N) (post : Int32 → am_I → am_N → Prop) : Prop :=
  w_X12_blanks M N (fun zM1 zN2 => ∀ zv3 : Int32, zv3 = zM1 (3, 0, 0) 49 → ∃ n, w_X12_takesNumber_p14 post n zv3 (am_u zM1 (3, 0, 0) 64 0) zN2)
set_option maxRecDepth 10000 in
theorem k_X12_takesNumber {d : Nat} {dm : List am_C} (h3 : am_d3 dm) {M : am_I} {N : am_N} {post : Int32 → am_I → am_N → Prop} (h : w_X12_takesNumber M N post) : jg (d + 2) mX12_takesNumber dm 0 [(0, .inr (.inr (3, 0, 0)))] [] M N (am_pi post) := by
  refine j_aload_n 0 dX12_takesNumber_0 rfl ?_
  refine j_invV (As := []) dX12_takesNumber_1 msRX12_372 mbX12_blanks rfl rfl (Nat.le_of_ble_eq_true rfl) (Nat.le_of_ble_eq_true rfl) (by omega) (h3 0 (by decide)) rfl rfl (k_X12_blanks (d := d + 0) h3 h) ?_
  rintro _ zM1 zN2 ⟨rfl, h⟩
  refine j_aload_n 0 dX12_takesNumber_4 rfl ?_
  refine j_getI dX12_takesNumber_5 fsRX12_366 (h3 0 (by decide)) rfl ?_
  refine j_topi (fun zv3 hzv3 => ?_)
  replace h := h zv3 hzv3
  refine j_istore_n dX12_takesNumber_8 (by decide) rfl ?_
  refine j_aload_n 1 dX12_takesNumber_9 rfl ?_
  refine j_iconst (v := 0) dX12_takesNumber_10 (by decide) ?_
  refine j_putI dX12_takesNumber_11 fwRX12_382 (h3 0 (by decide)) rfl ?_
  refine j_sub [1, 0] rfl ?_
  obtain ⟨n, h⟩ := h
  exact k_X12_takesNumber_p14 h3 n _ _ _ h
def w_X12_asked (a1 : Int64) (M : am_I) (N : am_N) (post : Int32 → am_I → am_N → Prop) : Prop :=
  ((¬ a1 = 2003133796 → ((¬ a1 = 7824756 → ((¬ a1 = 482955588467 → ((¬ a1 = 465726040947 → ((¬ a1 = 1936292453 → ((¬ a1 = 6909036 → ((¬ a1 = 1918986606 → ((¬ a1 = 444150998382 → post (-1) M N) ∧ (a1 = 444150998382 → post 7 M N))) ∧ (a1 = 1918986606 → post 6 M N))) ∧ (a1 = 6909036 → post 5 M N))) ∧ (a1 = 1936292453 → post 4 M N))) ∧ (a1 = 465726040947 → post 3 M N))) ∧ (a1 = 482955588467 → post 2 M N))) ∧ (a1 = 7824756 → post 1 M N))) ∧ (a1 = 2003133796 → post 0 M N))
set_option maxRecDepth 10000 in
theorem k_X12_asked {d : Nat} {dm : List am_C}  {a1 : Int64} {M : am_I} {N : am_N} {post : Int32 → am_I → am_N → Prop} (h : w_X12_asked a1 M N post) : jg (d + 1) mX12_asked dm 0 [(0, .inr (.inl a1))] [] M N (am_pi post) := by
  refine j_lload_n 0 dX12_asked_0 rfl ?_
  refine j_ldc2 (v := 2003133796) dX12_asked_1 cw_1887 ?_
  refine j_lcmp_ne (tgt := 12) dX12_asked_4 dX12_asked_5 (by decide) (fun hc => ?_) (fun hc => ?_)
  · replace h := h.1 hc
    refine j_lload_n 0 dX12_asked_12 rfl ?_
    refine j_ldc2 (v := 7824756) dX12_asked_13 cw_1888 ?_
    refine j_lcmp_ne (tgt := 24) dX12_asked_16 dX12_asked_17 (by decide) (fun hc => ?_) (fun hc => ?_)
    · replace h := h.1 hc
      refine j_lload_n 0 dX12_asked_24 rfl ?_
      refine j_ldc2 (v := 482955588467) dX12_asked_25 cw_1889 ?_
      refine j_lcmp_ne (tgt := 36) dX12_asked_28 dX12_asked_29 (by decide) (fun hc => ?_) (fun hc => ?_)
      · replace h := h.1 hc
        refine j_lload_n 0 dX12_asked_36 rfl ?_
        refine j_ldc2 (v := 465726040947) dX12_asked_37 cw_1890 ?_
        refine j_lcmp_ne (tgt := 48) dX12_asked_40 dX12_asked_41 (by decide) (fun hc => ?_) (fun hc => ?_)
        · replace h := h.1 hc
          refine j_lload_n 0 dX12_asked_48 rfl ?_
          refine j_ldc2 (v := 1936292453) dX12_asked_49 cw_1891 ?_
          refine j_lcmp_ne (tgt := 60) dX12_asked_52 dX12_asked_53 (by decide) (fun hc => ?_) (fun hc => ?_)
          · replace h := h.1 hc
            refine j_lload_n 0 dX12_asked_60 rfl ?_
            refine j_ldc2 (v := 6909036) dX12_asked_61 cw_1892 ?_
            refine j_lcmp_ne (tgt := 72) dX12_asked_64 dX12_asked_65 (by decide) (fun hc => ?_) (fun hc => ?_)
            · replace h := h.1 hc
              refine j_lload_n 0 dX12_asked_72 rfl ?_
              refine j_ldc2 (v := 1918986606) dX12_asked_73 cw_1893 ?_
              refine j_lcmp_ne (tgt := 85) dX12_asked_76 dX12_asked_77 (by decide) (fun hc => ?_) (fun hc => ?_)
              · replace h := h.1 hc
                refine j_lload_n 0 dX12_asked_85 rfl ?_
                refine j_ldc2 (v := 444150998382) dX12_asked_86 cw_1894 ?_
                refine j_lcmp_ne (tgt := 98) dX12_asked_89 dX12_asked_90 (by decide) (fun hc => ?_) (fun hc => ?_)
                · replace h := h.1 hc
                  refine j_iconst (v := (-1)) dX12_asked_98 (by decide) ?_
                  exact j_iret dX12_asked_99 rfl ⟨_, rfl, h⟩
                · replace h := h.2 hc
                  refine j_bipush (v := 7) dX12_asked_93 (by decide) ?_
                  refine j_goto (tgt := 99) dX12_asked_95 (by decide) ?_
                  exact j_iret dX12_asked_99 rfl ⟨_, rfl, h⟩
              · replace h := h.2 hc
                refine j_bipush (v := 6) dX12_asked_80 (by decide) ?_
                refine j_goto (tgt := 99) dX12_asked_82 (by decide) ?_
                exact j_iret dX12_asked_99 rfl ⟨_, rfl, h⟩
            · replace h := h.2 hc
              refine j_iconst (v := 5) dX12_asked_68 (by decide) ?_
              refine j_goto (tgt := 99) dX12_asked_69 (by decide) ?_
              exact j_iret dX12_asked_99 rfl ⟨_, rfl, h⟩
          · replace h := h.2 hc
            refine j_iconst (v := 4) dX12_asked_56 (by decide) ?_
            refine j_goto (tgt := 99) dX12_asked_57 (by decide) ?_
            exact j_iret dX12_asked_99 rfl ⟨_, rfl, h⟩
        · replace h := h.2 hc
          refine j_iconst (v := 3) dX12_asked_44 (by decide) ?_
          refine j_goto (tgt := 99) dX12_asked_45 (by decide) ?_
          exact j_iret dX12_asked_99 rfl ⟨_, rfl, h⟩
      · replace h := h.2 hc
        refine j_iconst (v := 2) dX12_asked_32 (by decide) ?_
        refine j_goto (tgt := 99) dX12_asked_33 (by decide) ?_
        exact j_iret dX12_asked_99 rfl ⟨_, rfl, h⟩
    · replace h := h.2 hc
      refine j_iconst (v := 1) dX12_asked_20 (by decide) ?_
      refine j_goto (tgt := 99) dX12_asked_21 (by decide) ?_
      exact j_iret dX12_asked_99 rfl ⟨_, rfl, h⟩
  · replace h := h.2 hc
    refine j_iconst (v := 0) dX12_asked_8 (by decide) ?_
    refine j_goto (tgt := 99) dX12_asked_9 (by decide) ?_
    exact j_iret dX12_asked_99 rfl ⟨_, rfl, h⟩
def w_X12_puts (a1 : Int32) (a2 : Int32) (M : am_I) (N : am_N) (post : am_I → am_N → Prop) : Prop :=
  vp_in (M (3, 0, 0) 46) 6300 ∧ vp_in ((am_u M (3, 0, 39) (M (3, 0, 0) 46).toNatClampNeg a1) (3, 0, 0) 46) 6300 ∧ post (am_u (am_u (am_u M (3, 0, 39) (M (3, 0, 0) 46).toNatClampNeg a1) (3, 0, 40) ((am_u M (3, 0, 39) (M (3, 0, 0) 46).toNatClampNeg a1) (3, 0, 0) 46).toNatClampNeg a2) (3, 0, 0) 46 (((am_u (am_u M (3, 0, 39) (M (3, 0, 0) 46).toNatClampNeg a1) (3, 0, 40) ((am_u M (3, 0, 39) (M (3, 0, 0) 46).toNatClampNeg a1) (3, 0, 0) 46).toNatClampNeg a2) (3, 0, 0) 46) + 1)) N
set_option maxRecDepth 10000 in
theorem k_X12_puts {d : Nat} {dm : List am_C} (h3 : am_d3 dm) {a1 : Int32} {a2 : Int32} {M : am_I} {N : am_N} {post : am_I → am_N → Prop} (h : w_X12_puts a1 a2 M N post) : jg (d + 1) mX12_puts dm 0 [(0, .inr (.inr (3, 0, 0))), (1, .inl a1), (2, .inl a2)] [] M N (am_pv post) := by
  refine j_aload_n 0 dX12_puts_0 rfl ?_
  refine j_getR (b := (3, 0, 39)) dX12_puts_1 fsRX12_133 (h3 0 (by decide)) rfl rfl ?_
  refine j_aload_n 0 dX12_puts_4 rfl ?_
  refine j_getI dX12_puts_5 fsRX12_401 (h3 0 (by decide)) rfl ?_
  refine j_iload_n 1 dX12_puts_8 rfl ?_
  obtain ⟨hq, h⟩ := h
  refine j_iast dX12_puts_9 (h3 39 (by decide)) rfl hq ?_
  refine j_aload_n 0 dX12_puts_10 rfl ?_
  refine j_getR (b := (3, 0, 40)) dX12_puts_11 fsRX12_136 (h3 0 (by decide)) rfl rfl ?_
  refine j_aload_n 0 dX12_puts_14 rfl ?_
  refine j_getI dX12_puts_15 fsRX12_401 (h3 0 (by decide)) rfl ?_
  refine j_iload_n 2 dX12_puts_18 rfl ?_
  obtain ⟨hq, h⟩ := h
  refine j_iast dX12_puts_19 (h3 40 (by decide)) rfl hq ?_
  refine j_aload_n 0 dX12_puts_20 rfl ?_
  refine j_dup dX12_puts_21 rfl ?_
  refine j_getI dX12_puts_22 fsRX12_401 (h3 0 (by decide)) rfl ?_
  refine j_iconst (v := 1) dX12_puts_25 (by decide) ?_
  refine j_iadd dX12_puts_26 ?_
  refine j_putI dX12_puts_27 fwRX12_401 (h3 0 (by decide)) rfl ?_
  exact j_vret dX12_puts_30 rfl ⟨rfl, h⟩
def w_X12_opens (M : am_I) (N : am_N) (post : Int32 → am_I → am_N → Prop) : Prop :=
  ((¬ (M (3, 0, 0) 50) = 9 → post 1 (am_u M (3, 0, 0) 50 ((M (3, 0, 0) 50) + 1)) N) ∧ ((M (3, 0, 0) 50) = 9 → post 0 M N))
set_option maxRecDepth 10000 in
theorem k_X12_opens {d : Nat} {dm : List am_C} (h3 : am_d3 dm) {M : am_I} {N : am_N} {post : Int32 → am_I → am_N → Prop} (h : w_X12_opens M N post) : jg (d + 1) mX12_opens dm 0 [(0, .inr (.inr (3, 0, 0)))] [] M N (am_pi post) := by
  refine j_aload_n 0 dX12_opens_0 rfl ?_
  refine j_getI dX12_opens_1 fsRX12_404 (h3 0 (by decide)) rfl ?_
  refine j_bipush (v := 9) dX12_opens_4 (by decide) ?_
  refine j_icmp_ne (tgt := 11) dX12_opens_6 (by decide) (fun hc => ?_) (fun hc => ?_)
  · replace h := h.1 hc
    refine j_aload_n 0 dX12_opens_11 rfl ?_
    refine j_dup dX12_opens_12 rfl ?_
    refine j_getI dX12_opens_13 fsRX12_404 (h3 0 (by decide)) rfl ?_
    refine j_iconst (v := 1) dX12_opens_16 (by decide) ?_
    refine j_iadd dX12_opens_17 ?_
    refine j_putI dX12_opens_18 fwRX12_404 (h3 0 (by decide)) rfl ?_
    refine j_iconst (v := 1) dX12_opens_21 (by decide) ?_
    exact j_zret dX12_opens_22 rfl (Or.inr rfl) ⟨_, rfl, h⟩
  · replace h := h.2 hc
    refine j_iconst (v := 0) dX12_opens_9 (by decide) ?_
    exact j_zret dX12_opens_10 rfl (Or.inl rfl) ⟨_, rfl, h⟩
def w_X12_atomO_p96 (rc : Nat → am_I → am_N → (Int32 → am_I → am_N → Prop) → Prop) (post : Int32 → am_I → am_N → Prop) (M : am_I) (N : am_N) : Prop :=
  w_X12_word M N (fun zr1 zM2 zN3 => w_X12_asked zr1 zM2 zN3 (fun zr4 zM5 zN6 => ((¬ zr4 = (-1) → w_X12_puts 1 zr4 (am_u zM5 (3, 0, 0) 49 (zM5 (3, 0, 0) 63)) zN6 (fun zM7 zN8 => post 1 zM7 zN8)) ∧ (zr4 = (-1) → post 0 zM5 zN6))))
set_option maxRecDepth 10000 in
theorem k_X12_atomO_p96 {d e : Nat} {dm : List am_C} {rc : Nat → am_I → am_N → (Int32 → am_I → am_N → Prop) → Prop} (h3 : am_d3 dm) (hdd : e < d + 3) (hrc0 : ∀  (M : am_I) (N : am_N) (post : Int32 → am_I → am_N → Prop), rc 0  M N post → jg e mX12_any dm 0 [(0, .inr (.inr (3, 0, 0)))] [] M N (am_pi post)) (hrc1 : ∀  (M : am_I) (N : am_N) (post : Int32 → am_I → am_N → Prop), rc 1  M N post → jg e mX12_all dm 0 [(0, .inr (.inr (3, 0, 0)))] [] M N (am_pi post)) (hrc2 : ∀  (M : am_I) (N : am_N) (post : Int32 → am_I → am_N → Prop), rc 2  M N post → jg e mX12_single dm 0 [(0, .inr (.inr (3, 0, 0)))] [] M N (am_pi post)) (hrc3 : ∀  (M : am_I) (N : am_N) (post : Int32 → am_I → am_N → Prop), rc 3  M N post → jg e mX12_ex dm 0 [(0, .inr (.inr (3, 0, 0)))] [] M N (am_pi post)) (hrc4 : ∀  (M : am_I) (N : am_N) (post : Int32 → am_I → am_N → Prop), rc 4  M N post → jg e mX12_product dm 0 [(0, .inr (.inr (3, 0, 0)))] [] M N (am_pi post)) (hrc5 : ∀  (M : am_I) (N : am_N) (post : Int32 → am_I → am_N → Prop), rc 5  M N post → jg e mX12_atom dm 0 [(0, .inr (.inr (3, 0, 0)))] [] M N (am_pi post)) {post : Int32 → am_I → am_N → Prop} (M : am_I) (N : am_N) (h : w_X12_atomO_p96 rc post  M N) : jg (d + 3) mX12_atom dm 96 [(0, .inr (.inr (3, 0, 0)))] [] M N (am_pi post) := by
  refine j_aload_n 0 dX12_atom_96 rfl ?_
  refine j_invV (As := []) dX12_atom_97 msRX12_378 mbX12_word rfl rfl (Nat.le_of_ble_eq_true rfl) (Nat.le_of_ble_eq_true rfl) (by omega) (h3 0 (by decide)) rfl rfl (k_X12_word (d := d + 0) h3 h) ?_
  rintro _ zM2 zN3 ⟨zr1, rfl, h⟩
  refine j_invS (As := [.inr (.inl zr1)]) dX12_atom_100 msRX12_422 mbX12_asked rfl rfl (Nat.le_of_ble_eq_true rfl) (Nat.le_of_ble_eq_true rfl) (by omega) (k_X12_asked (d := d + 1)  h) ?_
  rintro _ zM5 zN6 ⟨zr4, rfl, h⟩
  refine j_istore_n dX12_atom_103 (by decide) rfl ?_
  refine j_iload_n 0 dX12_atom_104 rfl ?_
  refine j_iconst (v := (-1)) dX12_atom_105 (by decide) ?_
  refine j_icmp_ne (tgt := 111) dX12_atom_106 (by decide) (fun hc => ?_) (fun hc => ?_)
  · replace h := h.1 hc
    refine j_aload_n 1 dX12_atom_111 rfl ?_
    refine j_aload_n 1 dX12_atom_112 rfl ?_
    refine j_getI dX12_atom_113 fsRX12_375 (h3 0 (by decide)) rfl ?_
    refine j_putI dX12_atom_116 fwRX12_366 (h3 0 (by decide)) rfl ?_
    refine j_aload_n 1 dX12_atom_119 rfl ?_
    refine j_iconst (v := 1) dX12_atom_120 (by decide) ?_
    refine j_iload_n 0 dX12_atom_121 rfl ?_
    refine j_invV (As := [.inl 1, .inl zr4]) dX12_atom_122 msRX12_410 mbX12_puts rfl rfl (Nat.le_of_ble_eq_true rfl) (Nat.le_of_ble_eq_true rfl) (by omega) (h3 0 (by decide)) rfl rfl (k_X12_puts (d := d + 1) h3 h) ?_
    rintro _ zM7 zN8 ⟨rfl, h⟩
    refine j_iconst (v := 1) dX12_atom_125 (by decide) ?_
    exact j_zret dX12_atom_126 rfl (Or.inr rfl) ⟨_, rfl, h⟩
  · replace h := h.2 hc
    refine j_iconst (v := 0) dX12_atom_109 (by decide) ?_
    exact j_zret dX12_atom_110 rfl (Or.inl rfl) ⟨_, rfl, h⟩
def w_X12_atomO (rc : Nat → am_I → am_N → (Int32 → am_I → am_N → Prop) → Prop) (M : am_I) (N : am_N) (post : Int32 → am_I → am_N → Prop) : Prop :=
  w_X12_takesNumber M N (fun zr1 zM2 zN3 => ((zr1 = 0 → w_X12_blanks zM2 zN3 (fun zM4 zN5 => (((zM4 (3, 0, 0) 48) ≤ (zM4 (3, 0, 0) 49) → w_X12_atomO_p96 rc post zM4 zN5) ∧ (¬ (zM4 (3, 0, 0) 48) ≤ (zM4 (3, 0, 0) 49) → vp_in (zM4 (3, 0, 0) 49) 500 ∧ ((¬ (zM4 (3, 0, 44) (zM4 (3, 0, 0) 49).toNatClampNeg) = 40 → w_X12_atomO_p96 rc post zM4 zN5) ∧ ((zM4 (3, 0, 44) (zM4 (3, 0, 0) 49).toNatClampNeg) = 40 → w_X12_opens zM4 zN5 (fun zr6 zM7 zN8 => ((¬ zr6 = 0 → rc 3 (am_u zM7 (3, 0, 0) 49 ((zM7 (3, 0, 0) 49) + 1)) zN8 (fun zr9 zM10 zN11 => ((zr9 = 0 → post 0 zM10 zN11) ∧ (¬ zr9 = 0 → w_X12_takesSign 41 zM10 zN11 (fun zr12 zM13 zN14 => ((¬ zr12 = 0 → post 1 (am_u zM13 (3, 0, 0) 50 ((zM13 (3, 0, 0) 50) - 1)) zN14) ∧ (zr12 = 0 → post 0 zM13 zN14))))))) ∧ (zr6 = 0 → post 0 zM7 zN8))))))))) ∧ (¬ zr1 = 0 → w_X12_puts 0 (zM2 (3, 0, 0) 64) zM2 zN3 (fun zM15 zN16 => post 1 zM15 zN16))))
set_option maxRecDepth 10000 in
theorem k_X12_atomO {d e : Nat} {dm : List am_C} {rc : Nat → am_I → am_N → (Int32 → am_I → am_N → Prop) → Prop} (h3 : am_d3 dm) (hdd : e < d + 3) (hrc0 : ∀  (M : am_I) (N : am_N) (post : Int32 → am_I → am_N → Prop), rc 0  M N post → jg e mX12_any dm 0 [(0, .inr (.inr (3, 0, 0)))] [] M N (am_pi post)) (hrc1 : ∀  (M : am_I) (N : am_N) (post : Int32 → am_I → am_N → Prop), rc 1  M N post → jg e mX12_all dm 0 [(0, .inr (.inr (3, 0, 0)))] [] M N (am_pi post)) (hrc2 : ∀  (M : am_I) (N : am_N) (post : Int32 → am_I → am_N → Prop), rc 2  M N post → jg e mX12_single dm 0 [(0, .inr (.inr (3, 0, 0)))] [] M N (am_pi post)) (hrc3 : ∀  (M : am_I) (N : am_N) (post : Int32 → am_I → am_N → Prop), rc 3  M N post → jg e mX12_ex dm 0 [(0, .inr (.inr (3, 0, 0)))] [] M N (am_pi post)) (hrc4 : ∀  (M : am_I) (N : am_N) (post : Int32 → am_I → am_N → Prop), rc 4  M N post → jg e mX12_product dm 0 [(0, .inr (.inr (3, 0, 0)))] [] M N (am_pi post)) (hrc5 : ∀  (M : am_I) (N : am_N) (post : Int32 → am_I → am_N → Prop), rc 5  M N post → jg e mX12_atom dm 0 [(0, .inr (.inr (3, 0, 0)))] [] M N (am_pi post)) {M : am_I} {N : am_N} {post : Int32 → am_I → am_N → Prop} (h : w_X12_atomO rc M N post) : jg (d + 3) mX12_atom dm 0 [(0, .inr (.inr (3, 0, 0)))] [] M N (am_pi post) := by
  refine j_aload_n 0 dX12_atom_0 rfl ?_
  refine j_invV (As := []) dX12_atom_1 msRX12_407 mbX12_takesNumber rfl rfl (Nat.le_of_ble_eq_true rfl) (Nat.le_of_ble_eq_true rfl) (by omega) (h3 0 (by decide)) rfl rfl (k_X12_takesNumber (d := d + 0) h3 h) ?_
  rintro _ zM2 zN3 ⟨zr1, rfl, h⟩
  refine j_if_eq (tgt := 18) dX12_atom_4 (by decide) (fun hc => ?_) (fun hc => ?_)
  · replace h := h.1 hc
    refine j_aload_n 0 dX12_atom_18 rfl ?_
    refine j_invV (As := []) dX12_atom_19 msRX12_372 mbX12_blanks rfl rfl (Nat.le_of_ble_eq_true rfl) (Nat.le_of_ble_eq_true rfl) (by omega) (h3 0 (by decide)) rfl rfl (k_X12_blanks (d := d + 1) h3 h) ?_
    rintro _ zM4 zN5 ⟨rfl, h⟩
    refine j_aload_n 0 dX12_atom_22 rfl ?_
    refine j_getI dX12_atom_23 fsRX12_366 (h3 0 (by decide)) rfl ?_
    refine j_aload_n 0 dX12_atom_26 rfl ?_
    refine j_getI dX12_atom_27 fsRX12_369 (h3 0 (by decide)) rfl ?_
    refine j_icmp_ge (tgt := 96) dX12_atom_30 (by decide) (fun hc => ?_) (fun hc => ?_)
    · replace h := h.1 hc
      refine j_sub [0] rfl ?_
      exact k_X12_atomO_p96 h3 hdd hrc0 hrc1 hrc2 hrc3 hrc4 hrc5 _ _ h
    · replace h := h.2 hc
      refine j_aload_n 0 dX12_atom_33 rfl ?_
      refine j_getR (b := (3, 0, 44)) dX12_atom_34 fsRX12_149 (h3 0 (by decide)) rfl rfl ?_
      refine j_aload_n 0 dX12_atom_37 rfl ?_
      refine j_getI dX12_atom_38 fsRX12_366 (h3 0 (by decide)) rfl ?_
      obtain ⟨hq, h⟩ := h
      refine j_bald dX12_atom_41 (h3 44 (by decide)) rfl hq ?_
      refine j_bipush (v := 40) dX12_atom_42 (by decide) ?_
      refine j_icmp_ne (tgt := 96) dX12_atom_44 (by decide) (fun hc => ?_) (fun hc => ?_)
      · replace h := h.1 hc
        refine j_sub [0] rfl ?_
        exact k_X12_atomO_p96 h3 hdd hrc0 hrc1 hrc2 hrc3 hrc4 hrc5 _ _ h
      · replace h := h.2 hc
        refine j_aload_n 0 dX12_atom_47 rfl ?_
        refine j_invV (As := []) dX12_atom_48 msRX12_413 mbX12_opens rfl rfl (Nat.le_of_ble_eq_true rfl) (Nat.le_of_ble_eq_true rfl) (by omega) (h3 0 (by decide)) rfl rfl (k_X12_opens (d := d + 1) h3 h) ?_
        rintro _ zM7 zN8 ⟨zr6, rfl, h⟩
        refine j_if_ne (tgt := 56) dX12_atom_51 (by decide) (fun hc => ?_) (fun hc => ?_)
        · replace h := h.1 hc
          refine j_aload_n 0 dX12_atom_56 rfl ?_
          refine j_dup dX12_atom_57 rfl ?_
          refine j_getI dX12_atom_58 fsRX12_366 (h3 0 (by decide)) rfl ?_
          refine j_iconst (v := 1) dX12_atom_61 (by decide) ?_
          refine j_iadd dX12_atom_62 ?_
          refine j_putI dX12_atom_63 fwRX12_366 (h3 0 (by decide)) rfl ?_
          refine j_aload_n 0 dX12_atom_66 rfl ?_
          refine j_invV (As := []) dX12_atom_67 msRX12_416 mbX12_ex rfl rfl (Nat.le_of_ble_eq_true rfl) (Nat.le_of_ble_eq_true rfl) (by omega) (h3 0 (by decide)) rfl rfl (hrc3 _ _ _ h) ?_
          rintro _ zM10 zN11 ⟨zr9, rfl, h⟩
          refine j_if_eq (tgt := 82) dX12_atom_70 (by decide) (fun hc => ?_) (fun hc => ?_)
          · replace h := h.1 hc
            refine j_iconst (v := 0) dX12_atom_82 (by decide) ?_
            exact j_zret dX12_atom_83 rfl (Or.inl rfl) ⟨_, rfl, h⟩
          · replace h := h.2 hc
            refine j_aload_n 0 dX12_atom_73 rfl ?_
            refine j_bipush (v := 41) dX12_atom_74 (by decide) ?_
            refine j_invV (As := [.inl 41]) dX12_atom_76 msRX12_419 mbX12_takesSign rfl rfl (Nat.le_of_ble_eq_true rfl) (Nat.le_of_ble_eq_true rfl) (by omega) (h3 0 (by decide)) rfl rfl (k_X12_takesSign (d := d + 0) h3 h) ?_
            rintro _ zM13 zN14 ⟨zr12, rfl, h⟩
            refine j_if_ne (tgt := 84) dX12_atom_79 (by decide) (fun hc => ?_) (fun hc => ?_)
            · replace h := h.1 hc
              refine j_aload_n 0 dX12_atom_84 rfl ?_
              refine j_dup dX12_atom_85 rfl ?_
              refine j_getI dX12_atom_86 fsRX12_404 (h3 0 (by decide)) rfl ?_
              refine j_iconst (v := 1) dX12_atom_89 (by decide) ?_
              refine j_isub dX12_atom_90 ?_
              refine j_putI dX12_atom_91 fwRX12_404 (h3 0 (by decide)) rfl ?_
              refine j_iconst (v := 1) dX12_atom_94 (by decide) ?_
              exact j_zret dX12_atom_95 rfl (Or.inr rfl) ⟨_, rfl, h⟩
            · replace h := h.2 hc
              refine j_iconst (v := 0) dX12_atom_82 (by decide) ?_
              exact j_zret dX12_atom_83 rfl (Or.inl rfl) ⟨_, rfl, h⟩
        · replace h := h.2 hc
          refine j_iconst (v := 0) dX12_atom_54 (by decide) ?_
          exact j_zret dX12_atom_55 rfl (Or.inl rfl) ⟨_, rfl, h⟩
  · replace h := h.2 hc
    refine j_aload_n 0 dX12_atom_7 rfl ?_
    refine j_iconst (v := 0) dX12_atom_8 (by decide) ?_
    refine j_aload_n 0 dX12_atom_9 rfl ?_
    refine j_getI dX12_atom_10 fsRX12_382 (h3 0 (by decide)) rfl ?_
    refine j_invV (As := [.inl 0, .inl (zM2 (3, 0, 0) 64)]) dX12_atom_13 msRX12_410 mbX12_puts rfl rfl (Nat.le_of_ble_eq_true rfl) (Nat.le_of_ble_eq_true rfl) (by omega) (h3 0 (by decide)) rfl rfl (k_X12_puts (d := d + 1) h3 h) ?_
    rintro _ zM15 zN16 ⟨rfl, h⟩
    refine j_iconst (v := 1) dX12_atom_16 (by decide) ?_
    exact j_zret dX12_atom_17 rfl (Or.inr rfl) ⟨_, rfl, h⟩
def w_X12_productO_p36 (rc : Nat → am_I → am_N → (Int32 → am_I → am_N → Prop) → Prop) (post : Int32 → am_I → am_N → Prop) (zk9 : am_I → am_N → Prop) (s0 : Int32) (M : am_I) (N : am_N) : Prop :=
  ((¬ s0 = (-1) → rc 5 M N (fun zr1 zM2 zN3 => ((¬ zr1 = 0 → w_X12_puts s0 0 zM2 zN3 (fun zM4 zN5 => zk9 zM4 zN5)) ∧ (zr1 = 0 → post 0 zM2 zN3)))) ∧ (s0 = (-1) → post 1 M N))
set_option maxRecDepth 10000 in
theorem k_X12_productO_p36 {d e : Nat} {dm : List am_C} {rc : Nat → am_I → am_N → (Int32 → am_I → am_N → Prop) → Prop} (h3 : am_d3 dm) (hdd : e < d + 3) (hrc0 : ∀  (M : am_I) (N : am_N) (post : Int32 → am_I → am_N → Prop), rc 0  M N post → jg e mX12_any dm 0 [(0, .inr (.inr (3, 0, 0)))] [] M N (am_pi post)) (hrc1 : ∀  (M : am_I) (N : am_N) (post : Int32 → am_I → am_N → Prop), rc 1  M N post → jg e mX12_all dm 0 [(0, .inr (.inr (3, 0, 0)))] [] M N (am_pi post)) (hrc2 : ∀  (M : am_I) (N : am_N) (post : Int32 → am_I → am_N → Prop), rc 2  M N post → jg e mX12_single dm 0 [(0, .inr (.inr (3, 0, 0)))] [] M N (am_pi post)) (hrc3 : ∀  (M : am_I) (N : am_N) (post : Int32 → am_I → am_N → Prop), rc 3  M N post → jg e mX12_ex dm 0 [(0, .inr (.inr (3, 0, 0)))] [] M N (am_pi post)) (hrc4 : ∀  (M : am_I) (N : am_N) (post : Int32 → am_I → am_N → Prop), rc 4  M N post → jg e mX12_product dm 0 [(0, .inr (.inr (3, 0, 0)))] [] M N (am_pi post)) (hrc5 : ∀  (M : am_I) (N : am_N) (post : Int32 → am_I → am_N → Prop), rc 5  M N post → jg e mX12_atom dm 0 [(0, .inr (.inr (3, 0, 0)))] [] M N (am_pi post)) {post : Int32 → am_I → am_N → Prop} {zk9 : am_I → am_N → Prop} (zhk9 : ∀  (M : am_I) (N : am_N), zk9  M N → jg (d + 3) mX12_product dm 9 [(0, .inr (.inr (3, 0, 0)))] [] M N (am_pi post)) (s0 : Int32) (M : am_I) (N : am_N) (h : w_X12_productO_p36 rc post zk9 s0 M N) : jg (d + 3) mX12_product dm 36 [(0, .inr (.inr (3, 0, 0)))] [.inl s0] M N (am_pi post) := by
  refine j_istore_n dX12_product_36 (by decide) rfl ?_
  refine j_iload_n 0 dX12_product_37 rfl ?_
  refine j_iconst (v := (-1)) dX12_product_38 (by decide) ?_
  refine j_icmp_ne (tgt := 44) dX12_product_39 (by decide) (fun hc => ?_) (fun hc => ?_)
  · replace h := h.1 hc
    refine j_aload_n 1 dX12_product_44 rfl ?_
    refine j_invV (As := []) dX12_product_45 msRX12_426 mbX12_atom rfl rfl (Nat.le_of_ble_eq_true rfl) (Nat.le_of_ble_eq_true rfl) (by omega) (h3 0 (by decide)) rfl rfl (hrc5 _ _ _ h) ?_
    rintro _ zM2 zN3 ⟨zr1, rfl, h⟩
    refine j_if_ne (tgt := 53) dX12_product_48 (by decide) (fun hc => ?_) (fun hc => ?_)
    · replace h := h.1 hc
      refine j_aload_n 1 dX12_product_53 rfl ?_
      refine j_iload_n 0 dX12_product_54 rfl ?_
      refine j_iconst (v := 0) dX12_product_55 (by decide) ?_
      refine j_invV (As := [.inl s0, .inl 0]) dX12_product_56 msRX12_410 mbX12_puts rfl rfl (Nat.le_of_ble_eq_true rfl) (Nat.le_of_ble_eq_true rfl) (by omega) (h3 0 (by decide)) rfl rfl (k_X12_puts (d := d + 1) h3 h) ?_
      rintro _ zM4 zN5 ⟨rfl, h⟩
      refine j_goto (tgt := 9) dX12_product_59 (by decide) ?_
      refine j_sub [1] rfl ?_
      exact zhk9 _ _ h
    · replace h := h.2 hc
      refine j_iconst (v := 0) dX12_product_51 (by decide) ?_
      exact j_zret dX12_product_52 rfl (Or.inl rfl) ⟨_, rfl, h⟩
  · replace h := h.2 hc
    refine j_iconst (v := 1) dX12_product_42 (by decide) ?_
    exact j_zret dX12_product_43 rfl (Or.inr rfl) ⟨_, rfl, h⟩
def w_X12_productO_p9_b (rc : Nat → am_I → am_N → (Int32 → am_I → am_N → Prop) → Prop) (post : Int32 → am_I → am_N → Prop) (zk9 : am_I → am_N → Prop) (M : am_I) (N : am_N) : Prop :=
  w_X12_takesSign 42 M N (fun zr1 zM2 zN3 => ((zr1 = 0 → w_X12_takesSign 47 zM2 zN3 (fun zr4 zM5 zN6 => ((zr4 = 0 → w_X12_productO_p36 rc post zk9 (-1) zM5 zN6) ∧ (¬ zr4 = 0 → w_X12_productO_p36 rc post zk9 5 zM5 zN6)))) ∧ (¬ zr1 = 0 → w_X12_productO_p36 rc post zk9 4 zM2 zN3)))
noncomputable def w_X12_productO_p9 (rc : Nat → am_I → am_N → (Int32 → am_I → am_N → Prop) → Prop) (post : Int32 → am_I → am_N → Prop) (n : Nat) : am_I → am_N → Prop :=
  Nat.rec (motive := fun _ => am_I → am_N → Prop) (fun _ _ => False) (fun _ zk => w_X12_productO_p9_b rc post zk) n
theorem w_X12_productO_p9_s (rc : Nat → am_I → am_N → (Int32 → am_I → am_N → Prop) → Prop) (post : Int32 → am_I → am_N → Prop) (n : Nat) (M : am_I) (N : am_N) : w_X12_productO_p9 rc post (n + 1) M N = w_X12_productO_p9_b rc post (w_X12_productO_p9 rc post n) M N := rfl
set_option maxRecDepth 10000 in
theorem k_X12_productO_p9 {d e : Nat} {dm : List am_C} {rc : Nat → am_I → am_N → (Int32 → am_I → am_N → Prop) → Prop} (h3 : am_d3 dm) (hdd : e < d + 3) (hrc0 : ∀  (M : am_I) (N : am_N) (post : Int32 → am_I → am_N → Prop), rc 0  M N post → jg e mX12_any dm 0 [(0, .inr (.inr (3, 0, 0)))] [] M N (am_pi post)) (hrc1 : ∀  (M : am_I) (N : am_N) (post : Int32 → am_I → am_N → Prop), rc 1  M N post → jg e mX12_all dm 0 [(0, .inr (.inr (3, 0, 0)))] [] M N (am_pi post)) (hrc2 : ∀  (M : am_I) (N : am_N) (post : Int32 → am_I → am_N → Prop), rc 2  M N post → jg e mX12_single dm 0 [(0, .inr (.inr (3, 0, 0)))] [] M N (am_pi post)) (hrc3 : ∀  (M : am_I) (N : am_N) (post : Int32 → am_I → am_N → Prop), rc 3  M N post → jg e mX12_ex dm 0 [(0, .inr (.inr (3, 0, 0)))] [] M N (am_pi post)) (hrc4 : ∀  (M : am_I) (N : am_N) (post : Int32 → am_I → am_N → Prop), rc 4  M N post → jg e mX12_product dm 0 [(0, .inr (.inr (3, 0, 0)))] [] M N (am_pi post)) (hrc5 : ∀  (M : am_I) (N : am_N) (post : Int32 → am_I → am_N → Prop), rc 5  M N post → jg e mX12_atom dm 0 [(0, .inr (.inr (3, 0, 0)))] [] M N (am_pi post)) {post : Int32 → am_I → am_N → Prop} : ∀ (n : Nat)  (M : am_I) (N : am_N), w_X12_productO_p9 rc post n  M N → jg (d + 3) mX12_product dm 9 [(0, .inr (.inr (3, 0, 0)))] [] M N (am_pi post) := by
  intro n
  induction n with
  | zero => intro  M N h; exact h.elim
  | succ n zih =>
    intro  M N h
    replace h : w_X12_productO_p9_b rc post (w_X12_productO_p9 rc post n)  M N := h
    refine j_aload_n 0 dX12_product_9 rfl ?_
    refine j_bipush (v := 42) dX12_product_10 (by decide) ?_
    refine j_invV (As := [.inl 42]) dX12_product_12 msRX12_419 mbX12_takesSign rfl rfl (Nat.le_of_ble_eq_true rfl) (Nat.le_of_ble_eq_true rfl) (by omega) (h3 0 (by decide)) rfl rfl (k_X12_takesSign (d := d + 0) h3 h) ?_
    rintro _ zM2 zN3 ⟨zr1, rfl, h⟩
    refine j_if_eq (tgt := 22) dX12_product_15 (by decide) (fun hc => ?_) (fun hc => ?_)
    · replace h := h.1 hc
      refine j_aload_n 0 dX12_product_22 rfl ?_
      refine j_bipush (v := 47) dX12_product_23 (by decide) ?_
      refine j_invV (As := [.inl 47]) dX12_product_25 msRX12_419 mbX12_takesSign rfl rfl (Nat.le_of_ble_eq_true rfl) (Nat.le_of_ble_eq_true rfl) (by omega) (h3 0 (by decide)) rfl rfl (k_X12_takesSign (d := d + 0) h3 h) ?_
      rintro _ zM5 zN6 ⟨zr4, rfl, h⟩
      refine j_if_eq (tgt := 35) dX12_product_28 (by decide) (fun hc => ?_) (fun hc => ?_)
      · replace h := h.1 hc
        refine j_iconst (v := (-1)) dX12_product_35 (by decide) ?_
        refine j_sub [0] rfl ?_
        exact k_X12_productO_p36 h3 hdd hrc0 hrc1 hrc2 hrc3 hrc4 hrc5 zih _ _ _ h
      · replace h := h.2 hc
        refine j_iconst (v := 5) dX12_product_31 (by decide) ?_
        refine j_goto (tgt := 36) dX12_product_32 (by decide) ?_
        refine j_sub [0] rfl ?_
        exact k_X12_productO_p36 h3 hdd hrc0 hrc1 hrc2 hrc3 hrc4 hrc5 zih _ _ _ h
    · replace h := h.2 hc
      refine j_iconst (v := 4) dX12_product_18 (by decide) ?_
      refine j_goto (tgt := 36) dX12_product_19 (by decide) ?_
      refine j_sub [0] rfl ?_
      exact k_X12_productO_p36 h3 hdd hrc0 hrc1 hrc2 hrc3 hrc4 hrc5 zih _ _ _ h
def w_X12_productO (rc : Nat → am_I → am_N → (Int32 → am_I → am_N → Prop) → Prop) (M : am_I) (N : am_N) (post : Int32 → am_I → am_N → Prop) : Prop :=
  rc 5 M N (fun zr1 zM2 zN3 => ((¬ zr1 = 0 → ∃ n, w_X12_productO_p9 rc post n zM2 zN3) ∧ (zr1 = 0 → post 0 zM2 zN3)))
set_option maxRecDepth 10000 in
theorem k_X12_productO {d e : Nat} {dm : List am_C} {rc : Nat → am_I → am_N → (Int32 → am_I → am_N → Prop) → Prop} (h3 : am_d3 dm) (hdd : e < d + 3) (hrc0 : ∀  (M : am_I) (N : am_N) (post : Int32 → am_I → am_N → Prop), rc 0  M N post → jg e mX12_any dm 0 [(0, .inr (.inr (3, 0, 0)))] [] M N (am_pi post)) (hrc1 : ∀  (M : am_I) (N : am_N) (post : Int32 → am_I → am_N → Prop), rc 1  M N post → jg e mX12_all dm 0 [(0, .inr (.inr (3, 0, 0)))] [] M N (am_pi post)) (hrc2 : ∀  (M : am_I) (N : am_N) (post : Int32 → am_I → am_N → Prop), rc 2  M N post → jg e mX12_single dm 0 [(0, .inr (.inr (3, 0, 0)))] [] M N (am_pi post)) (hrc3 : ∀  (M : am_I) (N : am_N) (post : Int32 → am_I → am_N → Prop), rc 3  M N post → jg e mX12_ex dm 0 [(0, .inr (.inr (3, 0, 0)))] [] M N (am_pi post)) (hrc4 : ∀  (M : am_I) (N : am_N) (post : Int32 → am_I → am_N → Prop), rc 4  M N post → jg e mX12_product dm 0 [(0, .inr (.inr (3, 0, 0)))] [] M N (am_pi post)) (hrc5 : ∀  (M : am_I) (N : am_N) (post : Int32 → am_I → am_N → Prop), rc 5  M N post → jg e mX12_atom dm 0 [(0, .inr (.inr (3, 0, 0)))] [] M N (am_pi post)) {M : am_I} {N : am_N} {post : Int32 → am_I → am_N → Prop} (h : w_X12_productO rc M N post) : jg (d + 3) mX12_product dm 0 [(0, .inr (.inr (3, 0, 0)))] [] M N (am_pi post) := by
  refine j_aload_n 0 dX12_product_0 rfl ?_
  refine j_invV (As := []) dX12_product_1 msRX12_426 mbX12_atom rfl rfl (Nat.le_of_ble_eq_true rfl) (Nat.le_of_ble_eq_true rfl) (by omega) (h3 0 (by decide)) rfl rfl (hrc5 _ _ _ h) ?_
  rintro _ zM2 zN3 ⟨zr1, rfl, h⟩
  refine j_if_ne (tgt := 9) dX12_product_4 (by decide) (fun hc => ?_) (fun hc => ?_)
  · replace h := h.1 hc
    refine j_sub [0] rfl ?_
    obtain ⟨n, h⟩ := h
    exact k_X12_productO_p9 h3 hdd hrc0 hrc1 hrc2 hrc3 hrc4 hrc5 n _ _ h
  · replace h := h.2 hc
    refine j_iconst (v := 0) dX12_product_7 (by decide) ?_
    exact j_zret dX12_product_8 rfl (Or.inl rfl) ⟨_, rfl, h⟩
def w_X12_exO_p36 (rc : Nat → am_I → am_N → (Int32 → am_I → am_N → Prop) → Prop) (post : Int32 → am_I → am_N → Prop) (zk9 : am_I → am_N → Prop) (s0 : Int32) (M : am_I) (N : am_N) : Prop :=
  ((¬ s0 = (-1) → rc 4 M N (fun zr1 zM2 zN3 => ((¬ zr1 = 0 → w_X12_puts s0 0 zM2 zN3 (fun zM4 zN5 => zk9 zM4 zN5)) ∧ (zr1 = 0 → post 0 zM2 zN3)))) ∧ (s0 = (-1) → post 1 M N))
set_option maxRecDepth 10000 in
theorem k_X12_exO_p36 {d e : Nat} {dm : List am_C} {rc : Nat → am_I → am_N → (Int32 → am_I → am_N → Prop) → Prop} (h3 : am_d3 dm) (hdd : e < d + 3) (hrc0 : ∀  (M : am_I) (N : am_N) (post : Int32 → am_I → am_N → Prop), rc 0  M N post → jg e mX12_any dm 0 [(0, .inr (.inr (3, 0, 0)))] [] M N (am_pi post)) (hrc1 : ∀  (M : am_I) (N : am_N) (post : Int32 → am_I → am_N → Prop), rc 1  M N post → jg e mX12_all dm 0 [(0, .inr (.inr (3, 0, 0)))] [] M N (am_pi post)) (hrc2 : ∀  (M : am_I) (N : am_N) (post : Int32 → am_I → am_N → Prop), rc 2  M N post → jg e mX12_single dm 0 [(0, .inr (.inr (3, 0, 0)))] [] M N (am_pi post)) (hrc3 : ∀  (M : am_I) (N : am_N) (post : Int32 → am_I → am_N → Prop), rc 3  M N post → jg e mX12_ex dm 0 [(0, .inr (.inr (3, 0, 0)))] [] M N (am_pi post)) (hrc4 : ∀  (M : am_I) (N : am_N) (post : Int32 → am_I → am_N → Prop), rc 4  M N post → jg e mX12_product dm 0 [(0, .inr (.inr (3, 0, 0)))] [] M N (am_pi post)) (hrc5 : ∀  (M : am_I) (N : am_N) (post : Int32 → am_I → am_N → Prop), rc 5  M N post → jg e mX12_atom dm 0 [(0, .inr (.inr (3, 0, 0)))] [] M N (am_pi post)) {post : Int32 → am_I → am_N → Prop} {zk9 : am_I → am_N → Prop} (zhk9 : ∀  (M : am_I) (N : am_N), zk9  M N → jg (d + 3) mX12_ex dm 9 [(0, .inr (.inr (3, 0, 0)))] [] M N (am_pi post)) (s0 : Int32) (M : am_I) (N : am_N) (h : w_X12_exO_p36 rc post zk9 s0 M N) : jg (d + 3) mX12_ex dm 36 [(0, .inr (.inr (3, 0, 0)))] [.inl s0] M N (am_pi post) := by
  refine j_istore_n dX12_ex_36 (by decide) rfl ?_
  refine j_iload_n 0 dX12_ex_37 rfl ?_
  refine j_iconst (v := (-1)) dX12_ex_38 (by decide) ?_
  refine j_icmp_ne (tgt := 44) dX12_ex_39 (by decide) (fun hc => ?_) (fun hc => ?_)
  · replace h := h.1 hc
    refine j_aload_n 1 dX12_ex_44 rfl ?_
    refine j_invV (As := []) dX12_ex_45 msRX12_429 mbX12_product rfl rfl (Nat.le_of_ble_eq_true rfl) (Nat.le_of_ble_eq_true rfl) (by omega) (h3 0 (by decide)) rfl rfl (hrc4 _ _ _ h) ?_
    rintro _ zM2 zN3 ⟨zr1, rfl, h⟩
    refine j_if_ne (tgt := 53) dX12_ex_48 (by decide) (fun hc => ?_) (fun hc => ?_)
    · replace h := h.1 hc
      refine j_aload_n 1 dX12_ex_53 rfl ?_
      refine j_iload_n 0 dX12_ex_54 rfl ?_
      refine j_iconst (v := 0) dX12_ex_55 (by decide) ?_
      refine j_invV (As := [.inl s0, .inl 0]) dX12_ex_56 msRX12_410 mbX12_puts rfl rfl (Nat.le_of_ble_eq_true rfl) (Nat.le_of_ble_eq_true rfl) (by omega) (h3 0 (by decide)) rfl rfl (k_X12_puts (d := d + 1) h3 h) ?_
      rintro _ zM4 zN5 ⟨rfl, h⟩
      refine j_goto (tgt := 9) dX12_ex_59 (by decide) ?_
      refine j_sub [1] rfl ?_
      exact zhk9 _ _ h
    · replace h := h.2 hc
      refine j_iconst (v := 0) dX12_ex_51 (by decide) ?_
      exact j_zret dX12_ex_52 rfl (Or.inl rfl) ⟨_, rfl, h⟩
  · replace h := h.2 hc
    refine j_iconst (v := 1) dX12_ex_42 (by decide) ?_
    exact j_zret dX12_ex_43 rfl (Or.inr rfl) ⟨_, rfl, h⟩
def w_X12_exO_p9_b (rc : Nat → am_I → am_N → (Int32 → am_I → am_N → Prop) → Prop) (post : Int32 → am_I → am_N → Prop) (zk9 : am_I → am_N → Prop) (M : am_I) (N : am_N) : Prop :=
  w_X12_takesSign 43 M N (fun zr1 zM2 zN3 => ((zr1 = 0 → w_X12_takesSign 45 zM2 zN3 (fun zr4 zM5 zN6 => ((zr4 = 0 → w_X12_exO_p36 rc post zk9 (-1) zM5 zN6) ∧ (¬ zr4 = 0 → w_X12_exO_p36 rc post zk9 3 zM5 zN6)))) ∧ (¬ zr1 = 0 → w_X12_exO_p36 rc post zk9 2 zM2 zN3)))
noncomputable def w_X12_exO_p9 (rc : Nat → am_I → am_N → (Int32 → am_I → am_N → Prop) → Prop) (post : Int32 → am_I → am_N → Prop) (n : Nat) : am_I → am_N → Prop :=
  Nat.rec (motive := fun _ => am_I → am_N → Prop) (fun _ _ => False) (fun _ zk => w_X12_exO_p9_b rc post zk) n
theorem w_X12_exO_p9_s (rc : Nat → am_I → am_N → (Int32 → am_I → am_N → Prop) → Prop) (post : Int32 → am_I → am_N → Prop) (n : Nat) (M : am_I) (N : am_N) : w_X12_exO_p9 rc post (n + 1) M N = w_X12_exO_p9_b rc post (w_X12_exO_p9 rc post n) M N := rfl
set_option maxRecDepth 10000 in
theorem k_X12_exO_p9 {d e : Nat} {dm : List am_C} {rc : Nat → am_I → am_N → (Int32 → am_I → am_N → Prop) → Prop} (h3 : am_d3 dm) (hdd : e < d + 3) (hrc0 : ∀  (M : am_I) (N : am_N) (post : Int32 → am_I → am_N → Prop), rc 0  M N post → jg e mX12_any dm 0 [(0, .inr (.inr (3, 0, 0)))] [] M N (am_pi post)) (hrc1 : ∀  (M : am_I) (N : am_N) (post : Int32 → am_I → am_N → Prop), rc 1  M N post → jg e mX12_all dm 0 [(0, .inr (.inr (3, 0, 0)))] [] M N (am_pi post)) (hrc2 : ∀  (M : am_I) (N : am_N) (post : Int32 → am_I → am_N → Prop), rc 2  M N post → jg e mX12_single dm 0 [(0, .inr (.inr (3, 0, 0)))] [] M N (am_pi post)) (hrc3 : ∀  (M : am_I) (N : am_N) (post : Int32 → am_I → am_N → Prop), rc 3  M N post → jg e mX12_ex dm 0 [(0, .inr (.inr (3, 0, 0)))] [] M N (am_pi post)) (hrc4 : ∀  (M : am_I) (N : am_N) (post : Int32 → am_I → am_N → Prop), rc 4  M N post → jg e mX12_product dm 0 [(0, .inr (.inr (3, 0, 0)))] [] M N (am_pi post)) (hrc5 : ∀  (M : am_I) (N : am_N) (post : Int32 → am_I → am_N → Prop), rc 5  M N post → jg e mX12_atom dm 0 [(0, .inr (.inr (3, 0, 0)))] [] M N (am_pi post)) {post : Int32 → am_I → am_N → Prop} : ∀ (n : Nat)  (M : am_I) (N : am_N), w_X12_exO_p9 rc post n  M N → jg (d + 3) mX12_ex dm 9 [(0, .inr (.inr (3, 0, 0)))] [] M N (am_pi post) := by
  intro n
  induction n with
  | zero => intro  M N h; exact h.elim
  | succ n zih =>
    intro  M N h
    replace h : w_X12_exO_p9_b rc post (w_X12_exO_p9 rc post n)  M N := h
    refine j_aload_n 0 dX12_ex_9 rfl ?_
    refine j_bipush (v := 43) dX12_ex_10 (by decide) ?_
    refine j_invV (As := [.inl 43]) dX12_ex_12 msRX12_419 mbX12_takesSign rfl rfl (Nat.le_of_ble_eq_true rfl) (Nat.le_of_ble_eq_true rfl) (by omega) (h3 0 (by decide)) rfl rfl (k_X12_takesSign (d := d + 0) h3 h) ?_
    rintro _ zM2 zN3 ⟨zr1, rfl, h⟩
    refine j_if_eq (tgt := 22) dX12_ex_15 (by decide) (fun hc => ?_) (fun hc => ?_)
    · replace h := h.1 hc
      refine j_aload_n 0 dX12_ex_22 rfl ?_
      refine j_bipush (v := 45) dX12_ex_23 (by decide) ?_
      refine j_invV (As := [.inl 45]) dX12_ex_25 msRX12_419 mbX12_takesSign rfl rfl (Nat.le_of_ble_eq_true rfl) (Nat.le_of_ble_eq_true rfl) (by omega) (h3 0 (by decide)) rfl rfl (k_X12_takesSign (d := d + 0) h3 h) ?_
      rintro _ zM5 zN6 ⟨zr4, rfl, h⟩
      refine j_if_eq (tgt := 35) dX12_ex_28 (by decide) (fun hc => ?_) (fun hc => ?_)
      · replace h := h.1 hc
        refine j_iconst (v := (-1)) dX12_ex_35 (by decide) ?_
        refine j_sub [0] rfl ?_
        exact k_X12_exO_p36 h3 hdd hrc0 hrc1 hrc2 hrc3 hrc4 hrc5 zih _ _ _ h
      · replace h := h.2 hc
        refine j_iconst (v := 3) dX12_ex_31 (by decide) ?_
        refine j_goto (tgt := 36) dX12_ex_32 (by decide) ?_
        refine j_sub [0] rfl ?_
        exact k_X12_exO_p36 h3 hdd hrc0 hrc1 hrc2 hrc3 hrc4 hrc5 zih _ _ _ h
    · replace h := h.2 hc
      refine j_iconst (v := 2) dX12_ex_18 (by decide) ?_
      refine j_goto (tgt := 36) dX12_ex_19 (by decide) ?_
      refine j_sub [0] rfl ?_
      exact k_X12_exO_p36 h3 hdd hrc0 hrc1 hrc2 hrc3 hrc4 hrc5 zih _ _ _ h
def w_X12_exO (rc : Nat → am_I → am_N → (Int32 → am_I → am_N → Prop) → Prop) (M : am_I) (N : am_N) (post : Int32 → am_I → am_N → Prop) : Prop :=
  rc 4 M N (fun zr1 zM2 zN3 => ((¬ zr1 = 0 → ∃ n, w_X12_exO_p9 rc post n zM2 zN3) ∧ (zr1 = 0 → post 0 zM2 zN3)))
set_option maxRecDepth 10000 in
theorem k_X12_exO {d e : Nat} {dm : List am_C} {rc : Nat → am_I → am_N → (Int32 → am_I → am_N → Prop) → Prop} (h3 : am_d3 dm) (hdd : e < d + 3) (hrc0 : ∀  (M : am_I) (N : am_N) (post : Int32 → am_I → am_N → Prop), rc 0  M N post → jg e mX12_any dm 0 [(0, .inr (.inr (3, 0, 0)))] [] M N (am_pi post)) (hrc1 : ∀  (M : am_I) (N : am_N) (post : Int32 → am_I → am_N → Prop), rc 1  M N post → jg e mX12_all dm 0 [(0, .inr (.inr (3, 0, 0)))] [] M N (am_pi post)) (hrc2 : ∀  (M : am_I) (N : am_N) (post : Int32 → am_I → am_N → Prop), rc 2  M N post → jg e mX12_single dm 0 [(0, .inr (.inr (3, 0, 0)))] [] M N (am_pi post)) (hrc3 : ∀  (M : am_I) (N : am_N) (post : Int32 → am_I → am_N → Prop), rc 3  M N post → jg e mX12_ex dm 0 [(0, .inr (.inr (3, 0, 0)))] [] M N (am_pi post)) (hrc4 : ∀  (M : am_I) (N : am_N) (post : Int32 → am_I → am_N → Prop), rc 4  M N post → jg e mX12_product dm 0 [(0, .inr (.inr (3, 0, 0)))] [] M N (am_pi post)) (hrc5 : ∀  (M : am_I) (N : am_N) (post : Int32 → am_I → am_N → Prop), rc 5  M N post → jg e mX12_atom dm 0 [(0, .inr (.inr (3, 0, 0)))] [] M N (am_pi post)) {M : am_I} {N : am_N} {post : Int32 → am_I → am_N → Prop} (h : w_X12_exO rc M N post) : jg (d + 3) mX12_ex dm 0 [(0, .inr (.inr (3, 0, 0)))] [] M N (am_pi post) := by
  refine j_aload_n 0 dX12_ex_0 rfl ?_
  refine j_invV (As := []) dX12_ex_1 msRX12_429 mbX12_product rfl rfl (Nat.le_of_ble_eq_true rfl) (Nat.le_of_ble_eq_true rfl) (by omega) (h3 0 (by decide)) rfl rfl (hrc4 _ _ _ h) ?_
  rintro _ zM2 zN3 ⟨zr1, rfl, h⟩
  refine j_if_ne (tgt := 9) dX12_ex_4 (by decide) (fun hc => ?_) (fun hc => ?_)
  · replace h := h.1 hc
    refine j_sub [0] rfl ?_
    obtain ⟨n, h⟩ := h
    exact k_X12_exO_p9 h3 hdd hrc0 hrc1 hrc2 hrc3 hrc4 hrc5 n _ _ h
  · replace h := h.2 hc
    refine j_iconst (v := 0) dX12_ex_7 (by decide) ?_
    exact j_zret dX12_ex_8 rfl (Or.inl rfl) ⟨_, rfl, h⟩
def w_X12_singleO_p182 (rc : Nat → am_I → am_N → (Int32 → am_I → am_N → Prop) → Prop) (post : Int32 → am_I → am_N → Prop) (s0 : Int32) (M : am_I) (N : am_N) : Prop :=
  ((s0 = (-1) → post 0 M N) ∧ (¬ s0 = (-1) → rc 3 M N (fun zr1 zM2 zN3 => ((¬ zr1 = 0 → w_X12_puts s0 0 zM2 zN3 (fun zM4 zN5 => post 1 zM4 zN5)) ∧ (zr1 = 0 → post 0 zM2 zN3)))))
set_option maxRecDepth 10000 in
theorem k_X12_singleO_p182 {d e : Nat} {dm : List am_C} {rc : Nat → am_I → am_N → (Int32 → am_I → am_N → Prop) → Prop} (h3 : am_d3 dm) (hdd : e < d + 3) (hrc0 : ∀  (M : am_I) (N : am_N) (post : Int32 → am_I → am_N → Prop), rc 0  M N post → jg e mX12_any dm 0 [(0, .inr (.inr (3, 0, 0)))] [] M N (am_pi post)) (hrc1 : ∀  (M : am_I) (N : am_N) (post : Int32 → am_I → am_N → Prop), rc 1  M N post → jg e mX12_all dm 0 [(0, .inr (.inr (3, 0, 0)))] [] M N (am_pi post)) (hrc2 : ∀  (M : am_I) (N : am_N) (post : Int32 → am_I → am_N → Prop), rc 2  M N post → jg e mX12_single dm 0 [(0, .inr (.inr (3, 0, 0)))] [] M N (am_pi post)) (hrc3 : ∀  (M : am_I) (N : am_N) (post : Int32 → am_I → am_N → Prop), rc 3  M N post → jg e mX12_ex dm 0 [(0, .inr (.inr (3, 0, 0)))] [] M N (am_pi post)) (hrc4 : ∀  (M : am_I) (N : am_N) (post : Int32 → am_I → am_N → Prop), rc 4  M N post → jg e mX12_product dm 0 [(0, .inr (.inr (3, 0, 0)))] [] M N (am_pi post)) (hrc5 : ∀  (M : am_I) (N : am_N) (post : Int32 → am_I → am_N → Prop), rc 5  M N post → jg e mX12_atom dm 0 [(0, .inr (.inr (3, 0, 0)))] [] M N (am_pi post)) {post : Int32 → am_I → am_N → Prop} (s0 : Int32) (M : am_I) (N : am_N) (h : w_X12_singleO_p182 rc post s0 M N) : jg (d + 3) mX12_single dm 182 [(0, .inr (.inr (3, 0, 0)))] [.inl s0] M N (am_pi post) := by
  refine j_istore_n dX12_single_182 (by decide) rfl ?_
  refine j_iload_n 0 dX12_single_183 rfl ?_
  refine j_iconst (v := (-1)) dX12_single_184 (by decide) ?_
  refine j_icmp_eq (tgt := 195) dX12_single_185 (by decide) (fun hc => ?_) (fun hc => ?_)
  · replace h := h.1 hc
    refine j_iconst (v := 0) dX12_single_195 (by decide) ?_
    exact j_zret dX12_single_196 rfl (Or.inl rfl) ⟨_, rfl, h⟩
  · replace h := h.2 hc
    refine j_aload_n 1 dX12_single_188 rfl ?_
    refine j_invV (As := []) dX12_single_189 msRX12_416 mbX12_ex rfl rfl (Nat.le_of_ble_eq_true rfl) (Nat.le_of_ble_eq_true rfl) (by omega) (h3 0 (by decide)) rfl rfl (hrc3 _ _ _ h) ?_
    rintro _ zM2 zN3 ⟨zr1, rfl, h⟩
    refine j_if_ne (tgt := 197) dX12_single_192 (by decide) (fun hc => ?_) (fun hc => ?_)
    · replace h := h.1 hc
      refine j_aload_n 1 dX12_single_197 rfl ?_
      refine j_iload_n 0 dX12_single_198 rfl ?_
      refine j_iconst (v := 0) dX12_single_199 (by decide) ?_
      refine j_invV (As := [.inl s0, .inl 0]) dX12_single_200 msRX12_410 mbX12_puts rfl rfl (Nat.le_of_ble_eq_true rfl) (Nat.le_of_ble_eq_true rfl) (by omega) (h3 0 (by decide)) rfl rfl (k_X12_puts (d := d + 1) h3 h) ?_
      rintro _ zM4 zN5 ⟨rfl, h⟩
      refine j_iconst (v := 1) dX12_single_203 (by decide) ?_
      exact j_zret dX12_single_204 rfl (Or.inr rfl) ⟨_, rfl, h⟩
    · replace h := h.2 hc
      refine j_iconst (v := 0) dX12_single_195 (by decide) ?_
      exact j_zret dX12_single_196 rfl (Or.inl rfl) ⟨_, rfl, h⟩
def w_X12_singleO_p130 (rc : Nat → am_I → am_N → (Int32 → am_I → am_N → Prop) → Prop) (post : Int32 → am_I → am_N → Prop) (M : am_I) (N : am_N) : Prop :=
  rc 3 M N (fun zr1 zM2 zN3 => ((¬ zr1 = 0 → w_X12_takesSign 60 zM2 zN3 (fun zr4 zM5 zN6 => ((zr4 = 0 → w_X12_takesSign 62 zM5 zN6 (fun zr7 zM8 zN9 => ((zr7 = 0 → w_X12_takesSign 61 zM8 zN9 (fun zr10 zM11 zN12 => ((zr10 = 0 → w_X12_singleO_p182 rc post (-1) zM11 zN12) ∧ (¬ zr10 = 0 → w_X12_singleO_p182 rc post 8 zM11 zN12)))) ∧ (¬ zr7 = 0 → w_X12_singleO_p182 rc post 7 zM8 zN9)))) ∧ (¬ zr4 = 0 → w_X12_singleO_p182 rc post 6 zM5 zN6)))) ∧ (zr1 = 0 → post 0 zM2 zN3)))
set_option maxRecDepth 10000 in
theorem k_X12_singleO_p130 {d e : Nat} {dm : List am_C} {rc : Nat → am_I → am_N → (Int32 → am_I → am_N → Prop) → Prop} (h3 : am_d3 dm) (hdd : e < d + 3) (hrc0 : ∀  (M : am_I) (N : am_N) (post : Int32 → am_I → am_N → Prop), rc 0  M N post → jg e mX12_any dm 0 [(0, .inr (.inr (3, 0, 0)))] [] M N (am_pi post)) (hrc1 : ∀  (M : am_I) (N : am_N) (post : Int32 → am_I → am_N → Prop), rc 1  M N post → jg e mX12_all dm 0 [(0, .inr (.inr (3, 0, 0)))] [] M N (am_pi post)) (hrc2 : ∀  (M : am_I) (N : am_N) (post : Int32 → am_I → am_N → Prop), rc 2  M N post → jg e mX12_single dm 0 [(0, .inr (.inr (3, 0, 0)))] [] M N (am_pi post)) (hrc3 : ∀  (M : am_I) (N : am_N) (post : Int32 → am_I → am_N → Prop), rc 3  M N post → jg e mX12_ex dm 0 [(0, .inr (.inr (3, 0, 0)))] [] M N (am_pi post)) (hrc4 : ∀  (M : am_I) (N : am_N) (post : Int32 → am_I → am_N → Prop), rc 4  M N post → jg e mX12_product dm 0 [(0, .inr (.inr (3, 0, 0)))] [] M N (am_pi post)) (hrc5 : ∀  (M : am_I) (N : am_N) (post : Int32 → am_I → am_N → Prop), rc 5  M N post → jg e mX12_atom dm 0 [(0, .inr (.inr (3, 0, 0)))] [] M N (am_pi post)) {post : Int32 → am_I → am_N → Prop} (M : am_I) (N : am_N) (h : w_X12_singleO_p130 rc post  M N) : jg (d + 3) mX12_single dm 130 [(0, .inr (.inr (3, 0, 0)))] [] M N (am_pi post) := by
  refine j_aload_n 0 dX12_single_130 rfl ?_
  refine j_invV (As := []) dX12_single_131 msRX12_416 mbX12_ex rfl rfl (Nat.le_of_ble_eq_true rfl) (Nat.le_of_ble_eq_true rfl) (by omega) (h3 0 (by decide)) rfl rfl (hrc3 _ _ _ h) ?_
  rintro _ zM2 zN3 ⟨zr1, rfl, h⟩
  refine j_if_ne (tgt := 139) dX12_single_134 (by decide) (fun hc => ?_) (fun hc => ?_)
  · replace h := h.1 hc
    refine j_aload_n 0 dX12_single_139 rfl ?_
    refine j_bipush (v := 60) dX12_single_140 (by decide) ?_
    refine j_invV (As := [.inl 60]) dX12_single_142 msRX12_419 mbX12_takesSign rfl rfl (Nat.le_of_ble_eq_true rfl) (Nat.le_of_ble_eq_true rfl) (by omega) (h3 0 (by decide)) rfl rfl (k_X12_takesSign (d := d + 0) h3 h) ?_
    rintro _ zM5 zN6 ⟨zr4, rfl, h⟩
    refine j_if_eq (tgt := 153) dX12_single_145 (by decide) (fun hc => ?_) (fun hc => ?_)
    · replace h := h.1 hc
      refine j_aload_n 0 dX12_single_153 rfl ?_
      refine j_bipush (v := 62) dX12_single_154 (by decide) ?_
      refine j_invV (As := [.inl 62]) dX12_single_156 msRX12_419 mbX12_takesSign rfl rfl (Nat.le_of_ble_eq_true rfl) (Nat.le_of_ble_eq_true rfl) (by omega) (h3 0 (by decide)) rfl rfl (k_X12_takesSign (d := d + 0) h3 h) ?_
      rintro _ zM8 zN9 ⟨zr7, rfl, h⟩
      refine j_if_eq (tgt := 167) dX12_single_159 (by decide) (fun hc => ?_) (fun hc => ?_)
      · replace h := h.1 hc
        refine j_aload_n 0 dX12_single_167 rfl ?_
        refine j_bipush (v := 61) dX12_single_168 (by decide) ?_
        refine j_invV (As := [.inl 61]) dX12_single_170 msRX12_419 mbX12_takesSign rfl rfl (Nat.le_of_ble_eq_true rfl) (Nat.le_of_ble_eq_true rfl) (by omega) (h3 0 (by decide)) rfl rfl (k_X12_takesSign (d := d + 0) h3 h) ?_
        rintro _ zM11 zN12 ⟨zr10, rfl, h⟩
        refine j_if_eq (tgt := 181) dX12_single_173 (by decide) (fun hc => ?_) (fun hc => ?_)
        · replace h := h.1 hc
          refine j_iconst (v := (-1)) dX12_single_181 (by decide) ?_
          refine j_sub [0] rfl ?_
          exact k_X12_singleO_p182 h3 hdd hrc0 hrc1 hrc2 hrc3 hrc4 hrc5 _ _ _ h
        · replace h := h.2 hc
          refine j_bipush (v := 8) dX12_single_176 (by decide) ?_
          refine j_goto (tgt := 182) dX12_single_178 (by decide) ?_
          refine j_sub [0] rfl ?_
          exact k_X12_singleO_p182 h3 hdd hrc0 hrc1 hrc2 hrc3 hrc4 hrc5 _ _ _ h
      · replace h := h.2 hc
        refine j_bipush (v := 7) dX12_single_162 (by decide) ?_
        refine j_goto (tgt := 182) dX12_single_164 (by decide) ?_
        refine j_sub [0] rfl ?_
        exact k_X12_singleO_p182 h3 hdd hrc0 hrc1 hrc2 hrc3 hrc4 hrc5 _ _ _ h
    · replace h := h.2 hc
      refine j_bipush (v := 6) dX12_single_148 (by decide) ?_
      refine j_goto (tgt := 182) dX12_single_150 (by decide) ?_
      refine j_sub [0] rfl ?_
      exact k_X12_singleO_p182 h3 hdd hrc0 hrc1 hrc2 hrc3 hrc4 hrc5 _ _ _ h
  · replace h := h.2 hc
    refine j_iconst (v := 0) dX12_single_137 (by decide) ?_
    exact j_zret dX12_single_138 rfl (Or.inl rfl) ⟨_, rfl, h⟩
def w_X12_singleO (rc : Nat → am_I → am_N → (Int32 → am_I → am_N → Prop) → Prop) (M : am_I) (N : am_N) (post : Int32 → am_I → am_N → Prop) : Prop :=
  w_X12_word M N (fun zr1 zM2 zN3 => ((¬ zr1 = 7237492 → (((zM2 (3, 0, 0) 48) ≤ (zM2 (3, 0, 0) 49) → w_X12_singleO_p130 rc post zM2 zN3) ∧ (¬ (zM2 (3, 0, 0) 48) ≤ (zM2 (3, 0, 0) 49) → vp_in (zM2 (3, 0, 0) 49) 500 ∧ ((¬ (zM2 (3, 0, 44) (zM2 (3, 0, 0) 49).toNatClampNeg) = 91 → w_X12_singleO_p130 rc post zM2 zN3) ∧ ((zM2 (3, 0, 44) (zM2 (3, 0, 0) 49).toNatClampNeg) = 91 → w_X12_opens zM2 zN3 (fun zr4 zM5 zN6 => ((¬ zr4 = 0 → rc 0 (am_u zM5 (3, 0, 0) 49 ((zM5 (3, 0, 0) 49) + 1)) zN6 (fun zr7 zM8 zN9 => ((zr7 = 0 → post 0 zM8 zN9) ∧ (¬ zr7 = 0 → w_X12_takesSign 93 zM8 zN9 (fun zr10 zM11 zN12 => ((¬ zr10 = 0 → post 1 (am_u zM11 (3, 0, 0) 50 ((zM11 (3, 0, 0) 50) - 1)) zN12) ∧ (zr10 = 0 → post 0 zM11 zN12))))))) ∧ (zr4 = 0 → post 0 zM5 zN6)))))))) ∧ (zr1 = 7237492 → w_X12_opens zM2 zN3 (fun zr13 zM14 zN15 => ((¬ zr13 = 0 → rc 2 (am_u zM14 (3, 0, 0) 49 (zM14 (3, 0, 0) 63)) zN15 (fun zr16 zM17 zN18 => ((¬ zr16 = 0 → w_X12_puts 11 0 (am_u zM17 (3, 0, 0) 50 ((zM17 (3, 0, 0) 50) - 1)) zN18 (fun zM19 zN20 => post 1 zM19 zN20)) ∧ (zr16 = 0 → post 0 zM17 zN18)))) ∧ (zr13 = 0 → post 0 zM14 zN15))))))
set_option maxRecDepth 10000 in
theorem k_X12_singleO {d e : Nat} {dm : List am_C} {rc : Nat → am_I → am_N → (Int32 → am_I → am_N → Prop) → Prop} (h3 : am_d3 dm) (hdd : e < d + 3) (hrc0 : ∀  (M : am_I) (N : am_N) (post : Int32 → am_I → am_N → Prop), rc 0  M N post → jg e mX12_any dm 0 [(0, .inr (.inr (3, 0, 0)))] [] M N (am_pi post)) (hrc1 : ∀  (M : am_I) (N : am_N) (post : Int32 → am_I → am_N → Prop), rc 1  M N post → jg e mX12_all dm 0 [(0, .inr (.inr (3, 0, 0)))] [] M N (am_pi post)) (hrc2 : ∀  (M : am_I) (N : am_N) (post : Int32 → am_I → am_N → Prop), rc 2  M N post → jg e mX12_single dm 0 [(0, .inr (.inr (3, 0, 0)))] [] M N (am_pi post)) (hrc3 : ∀  (M : am_I) (N : am_N) (post : Int32 → am_I → am_N → Prop), rc 3  M N post → jg e mX12_ex dm 0 [(0, .inr (.inr (3, 0, 0)))] [] M N (am_pi post)) (hrc4 : ∀  (M : am_I) (N : am_N) (post : Int32 → am_I → am_N → Prop), rc 4  M N post → jg e mX12_product dm 0 [(0, .inr (.inr (3, 0, 0)))] [] M N (am_pi post)) (hrc5 : ∀  (M : am_I) (N : am_N) (post : Int32 → am_I → am_N → Prop), rc 5  M N post → jg e mX12_atom dm 0 [(0, .inr (.inr (3, 0, 0)))] [] M N (am_pi post)) {M : am_I} {N : am_N} {post : Int32 → am_I → am_N → Prop} (h : w_X12_singleO rc M N post) : jg (d + 3) mX12_single dm 0 [(0, .inr (.inr (3, 0, 0)))] [] M N (am_pi post) := by
  refine j_aload_n 0 dX12_single_0 rfl ?_
  refine j_invV (As := []) dX12_single_1 msRX12_378 mbX12_word rfl rfl (Nat.le_of_ble_eq_true rfl) (Nat.le_of_ble_eq_true rfl) (by omega) (h3 0 (by decide)) rfl rfl (k_X12_word (d := d + 0) h3 h) ?_
  rintro _ zM2 zN3 ⟨zr1, rfl, h⟩
  refine j_ldc2 (v := 7237492) dX12_single_4 cw_1908 ?_
  refine j_lcmp_ne (tgt := 56) dX12_single_7 dX12_single_8 (by decide) (fun hc => ?_) (fun hc => ?_)
  · replace h := h.1 hc
    refine j_aload_n 0 dX12_single_56 rfl ?_
    refine j_getI dX12_single_57 fsRX12_366 (h3 0 (by decide)) rfl ?_
    refine j_aload_n 0 dX12_single_60 rfl ?_
    refine j_getI dX12_single_61 fsRX12_369 (h3 0 (by decide)) rfl ?_
    refine j_icmp_ge (tgt := 130) dX12_single_64 (by decide) (fun hc => ?_) (fun hc => ?_)
    · replace h := h.1 hc
      refine j_sub [0] rfl ?_
      exact k_X12_singleO_p130 h3 hdd hrc0 hrc1 hrc2 hrc3 hrc4 hrc5 _ _ h
    · replace h := h.2 hc
      refine j_aload_n 0 dX12_single_67 rfl ?_
      refine j_getR (b := (3, 0, 44)) dX12_single_68 fsRX12_149 (h3 0 (by decide)) rfl rfl ?_
      refine j_aload_n 0 dX12_single_71 rfl ?_
      refine j_getI dX12_single_72 fsRX12_366 (h3 0 (by decide)) rfl ?_
      obtain ⟨hq, h⟩ := h
      refine j_bald dX12_single_75 (h3 44 (by decide)) rfl hq ?_
      refine j_bipush (v := 91) dX12_single_76 (by decide) ?_
      refine j_icmp_ne (tgt := 130) dX12_single_78 (by decide) (fun hc => ?_) (fun hc => ?_)
      · replace h := h.1 hc
        refine j_sub [0] rfl ?_
        exact k_X12_singleO_p130 h3 hdd hrc0 hrc1 hrc2 hrc3 hrc4 hrc5 _ _ h
      · replace h := h.2 hc
        refine j_aload_n 0 dX12_single_81 rfl ?_
        refine j_invV (As := []) dX12_single_82 msRX12_413 mbX12_opens rfl rfl (Nat.le_of_ble_eq_true rfl) (Nat.le_of_ble_eq_true rfl) (by omega) (h3 0 (by decide)) rfl rfl (k_X12_opens (d := d + 1) h3 h) ?_
        rintro _ zM5 zN6 ⟨zr4, rfl, h⟩
        refine j_if_ne (tgt := 90) dX12_single_85 (by decide) (fun hc => ?_) (fun hc => ?_)
        · replace h := h.1 hc
          refine j_aload_n 0 dX12_single_90 rfl ?_
          refine j_dup dX12_single_91 rfl ?_
          refine j_getI dX12_single_92 fsRX12_366 (h3 0 (by decide)) rfl ?_
          refine j_iconst (v := 1) dX12_single_95 (by decide) ?_
          refine j_iadd dX12_single_96 ?_
          refine j_putI dX12_single_97 fwRX12_366 (h3 0 (by decide)) rfl ?_
          refine j_aload_n 0 dX12_single_100 rfl ?_
          refine j_invV (As := []) dX12_single_101 msRX12_437 mbX12_any rfl rfl (Nat.le_of_ble_eq_true rfl) (Nat.le_of_ble_eq_true rfl) (by omega) (h3 0 (by decide)) rfl rfl (hrc0 _ _ _ h) ?_
          rintro _ zM8 zN9 ⟨zr7, rfl, h⟩
          refine j_if_eq (tgt := 116) dX12_single_104 (by decide) (fun hc => ?_) (fun hc => ?_)
          · replace h := h.1 hc
            refine j_iconst (v := 0) dX12_single_116 (by decide) ?_
            exact j_zret dX12_single_117 rfl (Or.inl rfl) ⟨_, rfl, h⟩
          · replace h := h.2 hc
            refine j_aload_n 0 dX12_single_107 rfl ?_
            refine j_bipush (v := 93) dX12_single_108 (by decide) ?_
            refine j_invV (As := [.inl 93]) dX12_single_110 msRX12_419 mbX12_takesSign rfl rfl (Nat.le_of_ble_eq_true rfl) (Nat.le_of_ble_eq_true rfl) (by omega) (h3 0 (by decide)) rfl rfl (k_X12_takesSign (d := d + 0) h3 h) ?_
            rintro _ zM11 zN12 ⟨zr10, rfl, h⟩
            refine j_if_ne (tgt := 118) dX12_single_113 (by decide) (fun hc => ?_) (fun hc => ?_)
            · replace h := h.1 hc
              refine j_aload_n 0 dX12_single_118 rfl ?_
              refine j_dup dX12_single_119 rfl ?_
              refine j_getI dX12_single_120 fsRX12_404 (h3 0 (by decide)) rfl ?_
              refine j_iconst (v := 1) dX12_single_123 (by decide) ?_
              refine j_isub dX12_single_124 ?_
              refine j_putI dX12_single_125 fwRX12_404 (h3 0 (by decide)) rfl ?_
              refine j_iconst (v := 1) dX12_single_128 (by decide) ?_
              exact j_zret dX12_single_129 rfl (Or.inr rfl) ⟨_, rfl, h⟩
            · replace h := h.2 hc
              refine j_iconst (v := 0) dX12_single_116 (by decide) ?_
              exact j_zret dX12_single_117 rfl (Or.inl rfl) ⟨_, rfl, h⟩
        · replace h := h.2 hc
          refine j_iconst (v := 0) dX12_single_88 (by decide) ?_
          exact j_zret dX12_single_89 rfl (Or.inl rfl) ⟨_, rfl, h⟩
  · replace h := h.2 hc
    refine j_aload_n 0 dX12_single_11 rfl ?_
    refine j_invV (As := []) dX12_single_12 msRX12_413 mbX12_opens rfl rfl (Nat.le_of_ble_eq_true rfl) (Nat.le_of_ble_eq_true rfl) (by omega) (h3 0 (by decide)) rfl rfl (k_X12_opens (d := d + 1) h3 h) ?_
    rintro _ zM14 zN15 ⟨zr13, rfl, h⟩
    refine j_if_ne (tgt := 20) dX12_single_15 (by decide) (fun hc => ?_) (fun hc => ?_)
    · replace h := h.1 hc
      refine j_aload_n 0 dX12_single_20 rfl ?_
      refine j_aload_n 0 dX12_single_21 rfl ?_
      refine j_getI dX12_single_22 fsRX12_375 (h3 0 (by decide)) rfl ?_
      refine j_putI dX12_single_25 fwRX12_366 (h3 0 (by decide)) rfl ?_
      refine j_aload_n 0 dX12_single_28 rfl ?_
      refine j_invV (As := []) dX12_single_29 msRX12_434 mbX12_single rfl rfl (Nat.le_of_ble_eq_true rfl) (Nat.le_of_ble_eq_true rfl) (by omega) (h3 0 (by decide)) rfl rfl (hrc2 _ _ _ h) ?_
      rintro _ zM17 zN18 ⟨zr16, rfl, h⟩
      refine j_if_ne (tgt := 37) dX12_single_32 (by decide) (fun hc => ?_) (fun hc => ?_)
      · replace h := h.1 hc
        refine j_aload_n 0 dX12_single_37 rfl ?_
        refine j_dup dX12_single_38 rfl ?_
        refine j_getI dX12_single_39 fsRX12_404 (h3 0 (by decide)) rfl ?_
        refine j_iconst (v := 1) dX12_single_42 (by decide) ?_
        refine j_isub dX12_single_43 ?_
        refine j_putI dX12_single_44 fwRX12_404 (h3 0 (by decide)) rfl ?_
        refine j_aload_n 0 dX12_single_47 rfl ?_
        refine j_bipush (v := 11) dX12_single_48 (by decide) ?_
        refine j_iconst (v := 0) dX12_single_50 (by decide) ?_
        refine j_invV (As := [.inl 11, .inl 0]) dX12_single_51 msRX12_410 mbX12_puts rfl rfl (Nat.le_of_ble_eq_true rfl) (Nat.le_of_ble_eq_true rfl) (by omega) (h3 0 (by decide)) rfl rfl (k_X12_puts (d := d + 1) h3 h) ?_
        rintro _ zM19 zN20 ⟨rfl, h⟩
        refine j_iconst (v := 1) dX12_single_54 (by decide) ?_
        exact j_zret dX12_single_55 rfl (Or.inr rfl) ⟨_, rfl, h⟩
      · replace h := h.2 hc
        refine j_iconst (v := 0) dX12_single_35 (by decide) ?_
        exact j_zret dX12_single_36 rfl (Or.inl rfl) ⟨_, rfl, h⟩
    · replace h := h.2 hc
      refine j_iconst (v := 0) dX12_single_18 (by decide) ?_
      exact j_zret dX12_single_19 rfl (Or.inl rfl) ⟨_, rfl, h⟩
def w_X12_allO_p9_b (rc : Nat → am_I → am_N → (Int32 → am_I → am_N → Prop) → Prop) (post : Int32 → am_I → am_N → Prop) (zk9 : am_I → am_N → Prop) (M : am_I) (N : am_N) : Prop :=
  w_X12_takes 6385252 M N (fun zr1 zM2 zN3 => ((zr1 = 0 → post 1 zM2 zN3) ∧ (¬ zr1 = 0 → rc 2 zM2 zN3 (fun zr4 zM5 zN6 => ((¬ zr4 = 0 → w_X12_puts 10 0 zM5 zN6 (fun zM7 zN8 => zk9 zM7 zN8)) ∧ (zr4 = 0 → post 0 zM5 zN6))))))
noncomputable def w_X12_allO_p9 (rc : Nat → am_I → am_N → (Int32 → am_I → am_N → Prop) → Prop) (post : Int32 → am_I → am_N → Prop) (n : Nat) : am_I → am_N → Prop :=
  Nat.rec (motive := fun _ => am_I → am_N → Prop) (fun _ _ => False) (fun _ zk => w_X12_allO_p9_b rc post zk) n
theorem w_X12_allO_p9_s (rc : Nat → am_I → am_N → (Int32 → am_I → am_N → Prop) → Prop) (post : Int32 → am_I → am_N → Prop) (n : Nat) (M : am_I) (N : am_N) : w_X12_allO_p9 rc post (n + 1) M N = w_X12_allO_p9_b rc post (w_X12_allO_p9 rc post n) M N := rfl
set_option maxRecDepth 10000 in
theorem k_X12_allO_p9 {d e : Nat} {dm : List am_C} {rc : Nat → am_I → am_N → (Int32 → am_I → am_N → Prop) → Prop} (h3 : am_d3 dm) (hdd : e < d + 4) (hrc0 : ∀  (M : am_I) (N : am_N) (post : Int32 → am_I → am_N → Prop), rc 0  M N post → jg e mX12_any dm 0 [(0, .inr (.inr (3, 0, 0)))] [] M N (am_pi post)) (hrc1 : ∀  (M : am_I) (N : am_N) (post : Int32 → am_I → am_N → Prop), rc 1  M N post → jg e mX12_all dm 0 [(0, .inr (.inr (3, 0, 0)))] [] M N (am_pi post)) (hrc2 : ∀  (M : am_I) (N : am_N) (post : Int32 → am_I → am_N → Prop), rc 2  M N post → jg e mX12_single dm 0 [(0, .inr (.inr (3, 0, 0)))] [] M N (am_pi post)) (hrc3 : ∀  (M : am_I) (N : am_N) (post : Int32 → am_I → am_N → Prop), rc 3  M N post → jg e mX12_ex dm 0 [(0, .inr (.inr (3, 0, 0)))] [] M N (am_pi post)) (hrc4 : ∀  (M : am_I) (N : am_N) (post : Int32 → am_I → am_N → Prop), rc 4  M N post → jg e mX12_product dm 0 [(0, .inr (.inr (3, 0, 0)))] [] M N (am_pi post)) (hrc5 : ∀  (M : am_I) (N : am_N) (post : Int32 → am_I → am_N → Prop), rc 5  M N post → jg e mX12_atom dm 0 [(0, .inr (.inr (3, 0, 0)))] [] M N (am_pi post)) {post : Int32 → am_I → am_N → Prop} : ∀ (n : Nat)  (M : am_I) (N : am_N), w_X12_allO_p9 rc post n  M N → jg (d + 4) mX12_all dm 9 [(0, .inr (.inr (3, 0, 0)))] [] M N (am_pi post) := by
  intro n
  induction n with
  | zero => intro  M N h; exact h.elim
  | succ n zih =>
    intro  M N h
    replace h : w_X12_allO_p9_b rc post (w_X12_allO_p9 rc post n)  M N := h
    refine j_aload_n 0 dX12_all_9 rfl ?_
    refine j_ldc2 (v := 6385252) dX12_all_10 cw_1909 ?_
    refine j_invV (As := [.inr (.inl 6385252)]) dX12_all_13 msRX12_442 mbX12_takes rfl rfl (Nat.le_of_ble_eq_true rfl) (Nat.le_of_ble_eq_true rfl) (by omega) (h3 0 (by decide)) rfl rfl (k_X12_takes (d := d + 0) h3 h) ?_
    rintro _ zM2 zN3 ⟨zr1, rfl, h⟩
    refine j_if_eq (tgt := 38) dX12_all_16 (by decide) (fun hc => ?_) (fun hc => ?_)
    · replace h := h.1 hc
      refine j_iconst (v := 1) dX12_all_38 (by decide) ?_
      exact j_zret dX12_all_39 rfl (Or.inr rfl) ⟨_, rfl, h⟩
    · replace h := h.2 hc
      refine j_aload_n 0 dX12_all_19 rfl ?_
      refine j_invV (As := []) dX12_all_20 msRX12_434 mbX12_single rfl rfl (Nat.le_of_ble_eq_true rfl) (Nat.le_of_ble_eq_true rfl) (by omega) (h3 0 (by decide)) rfl rfl (hrc2 _ _ _ h) ?_
      rintro _ zM5 zN6 ⟨zr4, rfl, h⟩
      refine j_if_ne (tgt := 28) dX12_all_23 (by decide) (fun hc => ?_) (fun hc => ?_)
      · replace h := h.1 hc
        refine j_aload_n 0 dX12_all_28 rfl ?_
        refine j_bipush (v := 10) dX12_all_29 (by decide) ?_
        refine j_iconst (v := 0) dX12_all_31 (by decide) ?_
        refine j_invV (As := [.inl 10, .inl 0]) dX12_all_32 msRX12_410 mbX12_puts rfl rfl (Nat.le_of_ble_eq_true rfl) (Nat.le_of_ble_eq_true rfl) (by omega) (h3 0 (by decide)) rfl rfl (k_X12_puts (d := d + 2) h3 h) ?_
        rintro _ zM7 zN8 ⟨rfl, h⟩
        refine j_goto (tgt := 9) dX12_all_35 (by decide) ?_
        refine j_sub [0] rfl ?_
        exact zih _ _ h
      · replace h := h.2 hc
        refine j_iconst (v := 0) dX12_all_26 (by decide) ?_
        exact j_zret dX12_all_27 rfl (Or.inl rfl) ⟨_, rfl, h⟩
def w_X12_allO (rc : Nat → am_I → am_N → (Int32 → am_I → am_N → Prop) → Prop) (M : am_I) (N : am_N) (post : Int32 → am_I → am_N → Prop) : Prop :=
  rc 2 M N (fun zr1 zM2 zN3 => ((¬ zr1 = 0 → ∃ n, w_X12_allO_p9 rc post n zM2 zN3) ∧ (zr1 = 0 → post 0 zM2 zN3)))
set_option maxRecDepth 10000 in
theorem k_X12_allO {d e : Nat} {dm : List am_C} {rc : Nat → am_I → am_N → (Int32 → am_I → am_N → Prop) → Prop} (h3 : am_d3 dm) (hdd : e < d + 4) (hrc0 : ∀  (M : am_I) (N : am_N) (post : Int32 → am_I → am_N → Prop), rc 0  M N post → jg e mX12_any dm 0 [(0, .inr (.inr (3, 0, 0)))] [] M N (am_pi post)) (hrc1 : ∀  (M : am_I) (N : am_N) (post : Int32 → am_I → am_N → Prop), rc 1  M N post → jg e mX12_all dm 0 [(0, .inr (.inr (3, 0, 0)))] [] M N (am_pi post)) (hrc2 : ∀  (M : am_I) (N : am_N) (post : Int32 → am_I → am_N → Prop), rc 2  M N post → jg e mX12_single dm 0 [(0, .inr (.inr (3, 0, 0)))] [] M N (am_pi post)) (hrc3 : ∀  (M : am_I) (N : am_N) (post : Int32 → am_I → am_N → Prop), rc 3  M N post → jg e mX12_ex dm 0 [(0, .inr (.inr (3, 0, 0)))] [] M N (am_pi post)) (hrc4 : ∀  (M : am_I) (N : am_N) (post : Int32 → am_I → am_N → Prop), rc 4  M N post → jg e mX12_product dm 0 [(0, .inr (.inr (3, 0, 0)))] [] M N (am_pi post)) (hrc5 : ∀  (M : am_I) (N : am_N) (post : Int32 → am_I → am_N → Prop), rc 5  M N post → jg e mX12_atom dm 0 [(0, .inr (.inr (3, 0, 0)))] [] M N (am_pi post)) {M : am_I} {N : am_N} {post : Int32 → am_I → am_N → Prop} (h : w_X12_allO rc M N post) : jg (d + 4) mX12_all dm 0 [(0, .inr (.inr (3, 0, 0)))] [] M N (am_pi post) := by
  refine j_aload_n 0 dX12_all_0 rfl ?_
  refine j_invV (As := []) dX12_all_1 msRX12_434 mbX12_single rfl rfl (Nat.le_of_ble_eq_true rfl) (Nat.le_of_ble_eq_true rfl) (by omega) (h3 0 (by decide)) rfl rfl (hrc2 _ _ _ h) ?_
  rintro _ zM2 zN3 ⟨zr1, rfl, h⟩
  refine j_if_ne (tgt := 9) dX12_all_4 (by decide) (fun hc => ?_) (fun hc => ?_)
  · replace h := h.1 hc
    refine j_sub [0] rfl ?_
    obtain ⟨n, h⟩ := h
    exact k_X12_allO_p9 h3 hdd hrc0 hrc1 hrc2 hrc3 hrc4 hrc5 n _ _ h
  · replace h := h.2 hc
    refine j_iconst (v := 0) dX12_all_7 (by decide) ?_
    exact j_zret dX12_all_8 rfl (Or.inl rfl) ⟨_, rfl, h⟩
def w_X12_anyO_p9_b (rc : Nat → am_I → am_N → (Int32 → am_I → am_N → Prop) → Prop) (post : Int32 → am_I → am_N → Prop) (zk9 : am_I → am_N → Prop) (M : am_I) (N : am_N) : Prop :=
  w_X12_takes 28530 M N (fun zr1 zM2 zN3 => ((zr1 = 0 → post 1 zM2 zN3) ∧ (¬ zr1 = 0 → rc 1 zM2 zN3 (fun zr4 zM5 zN6 => ((¬ zr4 = 0 → w_X12_puts 9 0 zM5 zN6 (fun zM7 zN8 => zk9 zM7 zN8)) ∧ (zr4 = 0 → post 0 zM5 zN6))))))
noncomputable def w_X12_anyO_p9 (rc : Nat → am_I → am_N → (Int32 → am_I → am_N → Prop) → Prop) (post : Int32 → am_I → am_N → Prop) (n : Nat) : am_I → am_N → Prop :=
  Nat.rec (motive := fun _ => am_I → am_N → Prop) (fun _ _ => False) (fun _ zk => w_X12_anyO_p9_b rc post zk) n
theorem w_X12_anyO_p9_s (rc : Nat → am_I → am_N → (Int32 → am_I → am_N → Prop) → Prop) (post : Int32 → am_I → am_N → Prop) (n : Nat) (M : am_I) (N : am_N) : w_X12_anyO_p9 rc post (n + 1) M N = w_X12_anyO_p9_b rc post (w_X12_anyO_p9 rc post n) M N := rfl
set_option maxRecDepth 10000 in
theorem k_X12_anyO_p9 {d e : Nat} {dm : List am_C} {rc : Nat → am_I → am_N → (Int32 → am_I → am_N → Prop) → Prop} (h3 : am_d3 dm) (hdd : e < d + 4) (hrc0 : ∀  (M : am_I) (N : am_N) (post : Int32 → am_I → am_N → Prop), rc 0  M N post → jg e mX12_any dm 0 [(0, .inr (.inr (3, 0, 0)))] [] M N (am_pi post)) (hrc1 : ∀  (M : am_I) (N : am_N) (post : Int32 → am_I → am_N → Prop), rc 1  M N post → jg e mX12_all dm 0 [(0, .inr (.inr (3, 0, 0)))] [] M N (am_pi post)) (hrc2 : ∀  (M : am_I) (N : am_N) (post : Int32 → am_I → am_N → Prop), rc 2  M N post → jg e mX12_single dm 0 [(0, .inr (.inr (3, 0, 0)))] [] M N (am_pi post)) (hrc3 : ∀  (M : am_I) (N : am_N) (post : Int32 → am_I → am_N → Prop), rc 3  M N post → jg e mX12_ex dm 0 [(0, .inr (.inr (3, 0, 0)))] [] M N (am_pi post)) (hrc4 : ∀  (M : am_I) (N : am_N) (post : Int32 → am_I → am_N → Prop), rc 4  M N post → jg e mX12_product dm 0 [(0, .inr (.inr (3, 0, 0)))] [] M N (am_pi post)) (hrc5 : ∀  (M : am_I) (N : am_N) (post : Int32 → am_I → am_N → Prop), rc 5  M N post → jg e mX12_atom dm 0 [(0, .inr (.inr (3, 0, 0)))] [] M N (am_pi post)) {post : Int32 → am_I → am_N → Prop} : ∀ (n : Nat)  (M : am_I) (N : am_N), w_X12_anyO_p9 rc post n  M N → jg (d + 4) mX12_any dm 9 [(0, .inr (.inr (3, 0, 0)))] [] M N (am_pi post) := by
  intro n
  induction n with
  | zero => intro  M N h; exact h.elim
  | succ n zih =>
    intro  M N h
    replace h : w_X12_anyO_p9_b rc post (w_X12_anyO_p9 rc post n)  M N := h
    refine j_aload_n 0 dX12_any_9 rfl ?_
    refine j_ldc2 (v := 28530) dX12_any_10 cw_1910 ?_
    refine j_invV (As := [.inr (.inl 28530)]) dX12_any_13 msRX12_442 mbX12_takes rfl rfl (Nat.le_of_ble_eq_true rfl) (Nat.le_of_ble_eq_true rfl) (by omega) (h3 0 (by decide)) rfl rfl (k_X12_takes (d := d + 0) h3 h) ?_
    rintro _ zM2 zN3 ⟨zr1, rfl, h⟩
    refine j_if_eq (tgt := 38) dX12_any_16 (by decide) (fun hc => ?_) (fun hc => ?_)
    · replace h := h.1 hc
      refine j_iconst (v := 1) dX12_any_38 (by decide) ?_
      exact j_zret dX12_any_39 rfl (Or.inr rfl) ⟨_, rfl, h⟩
    · replace h := h.2 hc
      refine j_aload_n 0 dX12_any_19 rfl ?_
      refine j_invV (As := []) dX12_any_20 msRX12_446 mbX12_all rfl rfl (Nat.le_of_ble_eq_true rfl) (Nat.le_of_ble_eq_true rfl) (by omega) (h3 0 (by decide)) rfl rfl (hrc1 _ _ _ h) ?_
      rintro _ zM5 zN6 ⟨zr4, rfl, h⟩
      refine j_if_ne (tgt := 28) dX12_any_23 (by decide) (fun hc => ?_) (fun hc => ?_)
      · replace h := h.1 hc
        refine j_aload_n 0 dX12_any_28 rfl ?_
        refine j_bipush (v := 9) dX12_any_29 (by decide) ?_
        refine j_iconst (v := 0) dX12_any_31 (by decide) ?_
        refine j_invV (As := [.inl 9, .inl 0]) dX12_any_32 msRX12_410 mbX12_puts rfl rfl (Nat.le_of_ble_eq_true rfl) (Nat.le_of_ble_eq_true rfl) (by omega) (h3 0 (by decide)) rfl rfl (k_X12_puts (d := d + 2) h3 h) ?_
        rintro _ zM7 zN8 ⟨rfl, h⟩
        refine j_goto (tgt := 9) dX12_any_35 (by decide) ?_
        refine j_sub [0] rfl ?_
        exact zih _ _ h
      · replace h := h.2 hc
        refine j_iconst (v := 0) dX12_any_26 (by decide) ?_
        exact j_zret dX12_any_27 rfl (Or.inl rfl) ⟨_, rfl, h⟩
def w_X12_anyO (rc : Nat → am_I → am_N → (Int32 → am_I → am_N → Prop) → Prop) (M : am_I) (N : am_N) (post : Int32 → am_I → am_N → Prop) : Prop :=
  rc 1 M N (fun zr1 zM2 zN3 => ((¬ zr1 = 0 → ∃ n, w_X12_anyO_p9 rc post n zM2 zN3) ∧ (zr1 = 0 → post 0 zM2 zN3)))
set_option maxRecDepth 10000 in
theorem k_X12_anyO {d e : Nat} {dm : List am_C} {rc : Nat → am_I → am_N → (Int32 → am_I → am_N → Prop) → Prop} (h3 : am_d3 dm) (hdd : e < d + 4) (hrc0 : ∀  (M : am_I) (N : am_N) (post : Int32 → am_I → am_N → Prop), rc 0  M N post → jg e mX12_any dm 0 [(0, .inr (.inr (3, 0, 0)))] [] M N (am_pi post)) (hrc1 : ∀  (M : am_I) (N : am_N) (post : Int32 → am_I → am_N → Prop), rc 1  M N post → jg e mX12_all dm 0 [(0, .inr (.inr (3, 0, 0)))] [] M N (am_pi post)) (hrc2 : ∀  (M : am_I) (N : am_N) (post : Int32 → am_I → am_N → Prop), rc 2  M N post → jg e mX12_single dm 0 [(0, .inr (.inr (3, 0, 0)))] [] M N (am_pi post)) (hrc3 : ∀  (M : am_I) (N : am_N) (post : Int32 → am_I → am_N → Prop), rc 3  M N post → jg e mX12_ex dm 0 [(0, .inr (.inr (3, 0, 0)))] [] M N (am_pi post)) (hrc4 : ∀  (M : am_I) (N : am_N) (post : Int32 → am_I → am_N → Prop), rc 4  M N post → jg e mX12_product dm 0 [(0, .inr (.inr (3, 0, 0)))] [] M N (am_pi post)) (hrc5 : ∀  (M : am_I) (N : am_N) (post : Int32 → am_I → am_N → Prop), rc 5  M N post → jg e mX12_atom dm 0 [(0, .inr (.inr (3, 0, 0)))] [] M N (am_pi post)) {M : am_I} {N : am_N} {post : Int32 → am_I → am_N → Prop} (h : w_X12_anyO rc M N post) : jg (d + 4) mX12_any dm 0 [(0, .inr (.inr (3, 0, 0)))] [] M N (am_pi post) := by
  refine j_aload_n 0 dX12_any_0 rfl ?_
  refine j_invV (As := []) dX12_any_1 msRX12_446 mbX12_all rfl rfl (Nat.le_of_ble_eq_true rfl) (Nat.le_of_ble_eq_true rfl) (by omega) (h3 0 (by decide)) rfl rfl (hrc1 _ _ _ h) ?_
  rintro _ zM2 zN3 ⟨zr1, rfl, h⟩
  refine j_if_ne (tgt := 9) dX12_any_4 (by decide) (fun hc => ?_) (fun hc => ?_)
  · replace h := h.1 hc
    refine j_sub [0] rfl ?_
    obtain ⟨n, h⟩ := h
    exact k_X12_anyO_p9 h3 hdd hrc0 hrc1 hrc2 hrc3 hrc4 hrc5 n _ _ h
  · replace h := h.2 hc
    refine j_iconst (v := 0) dX12_any_7 (by decide) ?_
    exact j_zret dX12_any_8 rfl (Or.inl rfl) ⟨_, rfl, h⟩
def w_X12_fault (M : am_I) (N : am_N) (post : Int32 → am_I → am_N → Prop) : Prop :=
  post (M (3, 0, 0) 51) M N
set_option maxRecDepth 10000 in
theorem k_X12_fault {d : Nat} {dm : List am_C} (h3 : am_d3 dm) {M : am_I} {N : am_N} {post : Int32 → am_I → am_N → Prop} (h : w_X12_fault M N post) : jg (d + 1) mX12_fault dm 0 [(0, .inr (.inr (3, 0, 0)))] [] M N (am_pi post) := by
  refine j_aload_n 0 dX12_fault_0 rfl ?_
  refine j_getI dX12_fault_1 fsRX12_115 (h3 0 (by decide)) rfl ?_
  exact j_iret dX12_fault_4 rfl ⟨_, rfl, h⟩
def w_X12_bit (a1 : Int32) (M : am_I) (N : am_N) (post : Int64 → am_I → am_N → Prop) : Prop :=
  ((a1 = 0 → post 0 M N) ∧ (¬ a1 = 0 → post 1 M N))
set_option maxRecDepth 10000 in
theorem k_X12_bit {d : Nat} {dm : List am_C}  {a1 : Int32} {M : am_I} {N : am_N} {post : Int64 → am_I → am_N → Prop} (h : w_X12_bit a1 M N post) : jg (d + 1) mX12_bit dm 0 [(0, .inl a1)] [] M N (am_pl post) := by
  refine j_iload_n 0 dX12_bit_0 rfl ?_
  refine j_if_eq (tgt := 8) dX12_bit_1 (by decide) (fun hc => ?_) (fun hc => ?_)
  · replace h := h.1 hc
    refine j_lconst (v := 0) dX12_bit_8 (by decide) ?_
    exact j_lret dX12_bit_9 rfl ⟨_, rfl, h⟩
  · replace h := h.2 hc
    refine j_lconst (v := 1) dX12_bit_4 (by decide) ?_
    refine j_goto (tgt := 9) dX12_bit_5 (by decide) ?_
    exact j_lret dX12_bit_9 rfl ⟨_, rfl, h⟩
def w_X12_manyOf_p33 (post : Int32 → am_I → am_N → Prop) (zk5 : Int32 → Int32 → Int32 → Int32 → am_I → am_N → Prop) (l1 : Int32) (l2 : Int32) (l4 : Int32) (s0 : Int32) (s1 : Int32) (M : am_I) (N : am_N) : Prop :=
  w_X12_one s0 M N (fun zr1 zM2 zN3 => zk5 l1 l2 (s1 + zr1) (l4 + 1) zM2 zN3)
set_option maxRecDepth 10000 in
theorem k_X12_manyOf_p33 {d : Nat} {dm : List am_C} (h3 : am_d3 dm) {post : Int32 → am_I → am_N → Prop} {zk5 : Int32 → Int32 → Int32 → Int32 → am_I → am_N → Prop} (zhk5 : ∀ (l1 : Int32) (l2 : Int32) (l3 : Int32) (l4 : Int32) (M : am_I) (N : am_N), zk5 l1 l2 l3 l4 M N → jg (d + 2) mX12_manyOf dm 5 [(0, .inr (.inr (3, 0, 0))), (1, .inl l1), (2, .inl l2), (3, .inl l3), (4, .inl l4)] [] M N (am_pi post)) (l1 : Int32) (l2 : Int32) (l4 : Int32) (s0 : Int32) (s1 : Int32) (M : am_I) (N : am_N) (h : w_X12_manyOf_p33 post zk5 l1 l2 l4 s0 s1 M N) : jg (d + 2) mX12_manyOf dm 33 [(0, .inr (.inr (3, 0, 0))), (1, .inl l1), (2, .inl l2), (4, .inl l4)] [.inl s0, .inl s1] M N (am_pi post) := by
  refine j_invS (As := [.inl s0]) dX12_manyOf_33 msRX12_231 mbX12_one rfl rfl (Nat.le_of_ble_eq_true rfl) (Nat.le_of_ble_eq_true rfl) (by omega) (k_X12_one (d := d + 0)  h) ?_
  rintro _ zM2 zN3 ⟨zr1, rfl, h⟩
  refine j_iadd dX12_manyOf_36 ?_
  refine j_istore_n dX12_manyOf_37 (by decide) rfl ?_
  refine j_iinc 4 dX12_manyOf_38 rfl rfl (by decide) rfl ?_
  refine j_goto (tgt := 5) dX12_manyOf_41 (by decide) ?_
  refine j_sub [2, 3, 4, 1, 0] rfl ?_
  exact zhk5 _ _ _ _ _ _ h
def w_X12_manyOf_p5_b (post : Int32 → am_I → am_N → Prop) (zk5 : Int32 → Int32 → Int32 → Int32 → am_I → am_N → Prop) (l1 : Int32) (l2 : Int32) (l3 : Int32) (l4 : Int32) (M : am_I) (N : am_N) : Prop :=
  (((M (3, 0, 0) 12) ≤ l4 → post l3 M N) ∧ (¬ (M (3, 0, 0) 12) ≤ l4 → vp_in (l1 + l4) 1635 ∧ ((¬ (M (3, 0, 1) (l1 + l4).toNatClampNeg) = l2 → w_X12_manyOf_p33 post zk5 l1 l2 l4 0 l3 M N) ∧ ((M (3, 0, 1) (l1 + l4).toNatClampNeg) = l2 → w_X12_manyOf_p33 post zk5 l1 l2 l4 1 l3 M N))))
noncomputable def w_X12_manyOf_p5 (post : Int32 → am_I → am_N → Prop) (n : Nat) : Int32 → Int32 → Int32 → Int32 → am_I → am_N → Prop :=
  Nat.rec (motive := fun _ => Int32 → Int32 → Int32 → Int32 → am_I → am_N → Prop) (fun _ _ _ _ _ _ => False) (fun _ zk => w_X12_manyOf_p5_b post zk) n
theorem w_X12_manyOf_p5_s (post : Int32 → am_I → am_N → Prop) (n : Nat) (l1 : Int32) (l2 : Int32) (l3 : Int32) (l4 : Int32) (M : am_I) (N : am_N) : w_X12_manyOf_p5 post (n + 1) l1 l2 l3 l4 M N = w_X12_manyOf_p5_b post (w_X12_manyOf_p5 post n) l1 l2 l3 l4 M N := rfl
set_option maxRecDepth 10000 in
theorem k_X12_manyOf_p5 {d : Nat} {dm : List am_C} (h3 : am_d3 dm) {post : Int32 → am_I → am_N → Prop} : ∀ (n : Nat) (l1 : Int32) (l2 : Int32) (l3 : Int32) (l4 : Int32) (M : am_I) (N : am_N), w_X12_manyOf_p5 post n l1 l2 l3 l4 M N → jg (d + 2) mX12_manyOf dm 5 [(0, .inr (.inr (3, 0, 0))), (1, .inl l1), (2, .inl l2), (3, .inl l3), (4, .inl l4)] [] M N (am_pi post) := by
  intro n
  induction n with
  | zero => intro l1 l2 l3 l4 M N h; exact h.elim
  | succ n zih =>
    intro l1 l2 l3 l4 M N h
    replace h : w_X12_manyOf_p5_b post (w_X12_manyOf_p5 post n) l1 l2 l3 l4 M N := h
    refine j_iload 4 dX12_manyOf_5 rfl ?_
    refine j_aload_n 0 dX12_manyOf_7 rfl ?_
    refine j_getI dX12_manyOf_8 fsRX12_219 (h3 0 (by decide)) rfl ?_
    refine j_icmp_ge (tgt := 44) dX12_manyOf_11 (by decide) (fun hc => ?_) (fun hc => ?_)
    · replace h := h.1 hc
      refine j_iload_n 3 dX12_manyOf_44 rfl ?_
      exact j_iret dX12_manyOf_45 rfl ⟨_, rfl, h⟩
    · replace h := h.2 hc
      refine j_iload_n 3 dX12_manyOf_14 rfl ?_
      refine j_aload_n 0 dX12_manyOf_15 rfl ?_
      refine j_getR (b := (3, 0, 1)) dX12_manyOf_16 fsRX12_7 (h3 0 (by decide)) rfl rfl ?_
      refine j_iload_n 1 dX12_manyOf_19 rfl ?_
      refine j_iload 4 dX12_manyOf_20 rfl ?_
      refine j_iadd dX12_manyOf_22 ?_
      obtain ⟨hq, h⟩ := h
      refine j_iald dX12_manyOf_23 (h3 1 (by decide)) rfl hq ?_
      refine j_iload_n 2 dX12_manyOf_24 rfl ?_
      refine j_icmp_ne (tgt := 32) dX12_manyOf_25 (by decide) (fun hc => ?_) (fun hc => ?_)
      · replace h := h.1 hc
        refine j_iconst (v := 0) dX12_manyOf_32 (by decide) ?_
        refine j_sub [0, 1, 2, 4] rfl ?_
        exact k_X12_manyOf_p33 h3 zih _ _ _ _ _ _ _ h
      · replace h := h.2 hc
        refine j_iconst (v := 1) dX12_manyOf_28 (by decide) ?_
        refine j_goto (tgt := 33) dX12_manyOf_29 (by decide) ?_
        refine j_sub [0, 1, 2, 4] rfl ?_
        exact k_X12_manyOf_p33 h3 zih _ _ _ _ _ _ _ h
def w_X12_manyOf (a1 : Int32) (a2 : Int32) (M : am_I) (N : am_N) (post : Int32 → am_I → am_N → Prop) : Prop :=
  ∃ n, w_X12_manyOf_p5 post n a1 a2 0 0 M N
set_option maxRecDepth 10000 in
theorem k_X12_manyOf {d : Nat} {dm : List am_C} (h3 : am_d3 dm) {a1 : Int32} {a2 : Int32} {M : am_I} {N : am_N} {post : Int32 → am_I → am_N → Prop} (h : w_X12_manyOf a1 a2 M N post) : jg (d + 2) mX12_manyOf dm 0 [(0, .inr (.inr (3, 0, 0))), (1, .inl a1), (2, .inl a2)] [] M N (am_pi post) := by
  refine j_iconst (v := 0) dX12_manyOf_0 (by decide) ?_
  refine j_istore_n dX12_manyOf_1 (by decide) rfl ?_
  refine j_iconst (v := 0) dX12_manyOf_2 (by decide) ?_
  refine j_istore dX12_manyOf_3 (by decide) rfl ?_
  refine j_sub [2, 3, 4, 1, 0] rfl ?_
  obtain ⟨n, h⟩ := h
  exact k_X12_manyOf_p5 h3 n _ _ _ _ _ _ h
def w_X12_count_p143_b (post : Int32 → am_I → am_N → Prop) (zk143 : Int32 → Int32 → am_I → am_N → Prop) (l2 : Int32) (l3 : Int32) (M : am_I) (N : am_N) : Prop :=
  ((64 ≤ l3 → post l2 M N) ∧ (¬ 64 ≤ l3 → vp_in (192 + l3) 1635 ∧ ∀ zv1 : Int32, zv1 = l2 + (M (3, 0, 1) (192 + l3).toNatClampNeg) → zk143 zv1 (l3 + 1) M N))
noncomputable def w_X12_count_p143 (post : Int32 → am_I → am_N → Prop) (n : Nat) : Int32 → Int32 → am_I → am_N → Prop :=
  Nat.rec (motive := fun _ => Int32 → Int32 → am_I → am_N → Prop) (fun _ _ _ _ => False) (fun _ zk => w_X12_count_p143_b post zk) n
theorem w_X12_count_p143_s (post : Int32 → am_I → am_N → Prop) (n : Nat) (l2 : Int32) (l3 : Int32) (M : am_I) (N : am_N) : w_X12_count_p143 post (n + 1) l2 l3 M N = w_X12_count_p143_b post (w_X12_count_p143 post n) l2 l3 M N := rfl
set_option maxRecDepth 10000 in
theorem k_X12_count_p143 {d : Nat} {dm : List am_C} (h3 : am_d3 dm) {post : Int32 → am_I → am_N → Prop} : ∀ (n : Nat) (l2 : Int32) (l3 : Int32) (M : am_I) (N : am_N), w_X12_count_p143 post n l2 l3 M N → jg (d + 3) mX12_count dm 143 [(0, .inr (.inr (3, 0, 0))), (2, .inl l2), (3, .inl l3)] [] M N (am_pi post) := by
  intro n
  induction n with
  | zero => intro l2 l3 M N h; exact h.elim
  | succ n zih =>
    intro l2 l3 M N h
    replace h : w_X12_count_p143_b post (w_X12_count_p143 post n) l2 l3 M N := h
    refine j_iload_n 2 dX12_count_143 rfl ?_
    refine j_bipush (v := 64) dX12_count_144 (by decide) ?_
    refine j_icmp_ge (tgt := 168) dX12_count_146 (by decide) (fun hc => ?_) (fun hc => ?_)
    · replace h := h.1 hc
      refine j_iload_n 1 dX12_count_168 rfl ?_
      exact j_iret dX12_count_169 rfl ⟨_, rfl, h⟩
    · replace h := h.2 hc
      refine j_iload_n 1 dX12_count_149 rfl ?_
      refine j_aload_n 0 dX12_count_150 rfl ?_
      refine j_getR (b := (3, 0, 1)) dX12_count_151 fsRX12_7 (h3 0 (by decide)) rfl rfl ?_
      refine j_sipush (v := 192) dX12_count_154 (by decide) ?_
      refine j_iload_n 2 dX12_count_157 rfl ?_
      refine j_iadd dX12_count_158 ?_
      obtain ⟨hq, h⟩ := h
      refine j_iald dX12_count_159 (h3 1 (by decide)) rfl hq ?_
      refine j_iadd dX12_count_160 ?_
      refine j_topi (fun zv1 hzv1 => ?_)
      replace h := h zv1 hzv1
      refine j_istore_n dX12_count_161 (by decide) rfl ?_
      refine j_iinc 2 dX12_count_162 rfl rfl (by decide) rfl ?_
      refine j_goto (tgt := 143) dX12_count_165 (by decide) ?_
      refine j_sub [2, 1, 0] rfl ?_
      exact zih _ _ _ _ h
def w_X12_count_p243 (post : Int32 → am_I → am_N → Prop) (zk215 : Int32 → Int32 → am_I → am_N → Prop) (l3 : Int32) (s0 : Int32) (s1 : Int32) (M : am_I) (N : am_N) : Prop :=
  w_X12_one s0 M N (fun zr1 zM2 zN3 => zk215 (s1 + zr1) (l3 + 1) zM2 zN3)
set_option maxRecDepth 10000 in
theorem k_X12_count_p243 {d : Nat} {dm : List am_C} (h3 : am_d3 dm) {post : Int32 → am_I → am_N → Prop} {zk215 : Int32 → Int32 → am_I → am_N → Prop} (zhk215 : ∀ (l2 : Int32) (l3 : Int32) (M : am_I) (N : am_N), zk215 l2 l3 M N → jg (d + 3) mX12_count dm 215 [(0, .inr (.inr (3, 0, 0))), (2, .inl l2), (3, .inl l3)] [] M N (am_pi post)) (l3 : Int32) (s0 : Int32) (s1 : Int32) (M : am_I) (N : am_N) (h : w_X12_count_p243 post zk215 l3 s0 s1 M N) : jg (d + 3) mX12_count dm 243 [(0, .inr (.inr (3, 0, 0))), (3, .inl l3)] [.inl s0, .inl s1] M N (am_pi post) := by
  refine j_invS (As := [.inl s0]) dX12_count_243 msRX12_231 mbX12_one rfl rfl (Nat.le_of_ble_eq_true rfl) (Nat.le_of_ble_eq_true rfl) (by omega) (k_X12_one (d := d + 1)  h) ?_
  rintro _ zM2 zN3 ⟨zr1, rfl, h⟩
  refine j_iadd dX12_count_246 ?_
  refine j_istore_n dX12_count_247 (by decide) rfl ?_
  refine j_iinc 2 dX12_count_248 rfl rfl (by decide) rfl ?_
  refine j_goto (tgt := 215) dX12_count_251 (by decide) ?_
  refine j_sub [2, 1, 0] rfl ?_
  exact zhk215 _ _ _ _ h
def w_X12_count_p215_b (post : Int32 → am_I → am_N → Prop) (zk215 : Int32 → Int32 → am_I → am_N → Prop) (l2 : Int32) (l3 : Int32) (M : am_I) (N : am_N) : Prop :=
  (((M (3, 0, 0) 11) ≤ l3 → post l2 M N) ∧ (¬ (M (3, 0, 0) 11) ≤ l3 → vp_in (976 + l3) 1635 ∧ ((¬ (M (3, 0, 1) (976 + l3).toNatClampNeg) = 4 → w_X12_count_p243 post zk215 l3 0 l2 M N) ∧ ((M (3, 0, 1) (976 + l3).toNatClampNeg) = 4 → w_X12_count_p243 post zk215 l3 1 l2 M N))))
noncomputable def w_X12_count_p215 (post : Int32 → am_I → am_N → Prop) (n : Nat) : Int32 → Int32 → am_I → am_N → Prop :=
  Nat.rec (motive := fun _ => Int32 → Int32 → am_I → am_N → Prop) (fun _ _ _ _ => False) (fun _ zk => w_X12_count_p215_b post zk) n
theorem w_X12_count_p215_s (post : Int32 → am_I → am_N → Prop) (n : Nat) (l2 : Int32) (l3 : Int32) (M : am_I) (N : am_N) : w_X12_count_p215 post (n + 1) l2 l3 M N = w_X12_count_p215_b post (w_X12_count_p215 post n) l2 l3 M N := rfl
set_option maxRecDepth 10000 in
theorem k_X12_count_p215 {d : Nat} {dm : List am_C} (h3 : am_d3 dm) {post : Int32 → am_I → am_N → Prop} : ∀ (n : Nat) (l2 : Int32) (l3 : Int32) (M : am_I) (N : am_N), w_X12_count_p215 post n l2 l3 M N → jg (d + 3) mX12_count dm 215 [(0, .inr (.inr (3, 0, 0))), (2, .inl l2), (3, .inl l3)] [] M N (am_pi post) := by
  intro n
  induction n with
  | zero => intro l2 l3 M N h; exact h.elim
  | succ n zih =>
    intro l2 l3 M N h
    replace h : w_X12_count_p215_b post (w_X12_count_p215 post n) l2 l3 M N := h
    refine j_iload_n 2 dX12_count_215 rfl ?_
    refine j_aload_n 0 dX12_count_216 rfl ?_
    refine j_getI dX12_count_217 fsRX12_213 (h3 0 (by decide)) rfl ?_
    refine j_icmp_ge (tgt := 254) dX12_count_220 (by decide) (fun hc => ?_) (fun hc => ?_)
    · replace h := h.1 hc
      refine j_iload_n 1 dX12_count_254 rfl ?_
      exact j_iret dX12_count_255 rfl ⟨_, rfl, h⟩
    · replace h := h.2 hc
      refine j_iload_n 1 dX12_count_223 rfl ?_
      refine j_aload_n 0 dX12_count_224 rfl ?_
      refine j_getR (b := (3, 0, 1)) dX12_count_225 fsRX12_7 (h3 0 (by decide)) rfl rfl ?_
      refine j_sipush (v := 976) dX12_count_228 (by decide) ?_
      refine j_iload_n 2 dX12_count_231 rfl ?_
      refine j_iadd dX12_count_232 ?_
      obtain ⟨hq, h⟩ := h
      refine j_iald dX12_count_233 (h3 1 (by decide)) rfl hq ?_
      refine j_iconst (v := 4) dX12_count_234 (by decide) ?_
      refine j_icmp_ne (tgt := 242) dX12_count_235 (by decide) (fun hc => ?_) (fun hc => ?_)
      · replace h := h.1 hc
        refine j_iconst (v := 0) dX12_count_242 (by decide) ?_
        refine j_sub [0, 2] rfl ?_
        exact k_X12_count_p243 h3 zih _ _ _ _ _ h
      · replace h := h.2 hc
        refine j_iconst (v := 1) dX12_count_238 (by decide) ?_
        refine j_goto (tgt := 243) dX12_count_239 (by decide) ?_
        refine j_sub [0, 2] rfl ?_
        exact k_X12_count_p243 h3 zih _ _ _ _ _ h
def w_X12_count_p293 (post : Int32 → am_I → am_N → Prop) (zk258 : Int32 → Int32 → am_I → am_N → Prop) (l3 : Int32) (s0 : Int32) (s1 : Int32) (M : am_I) (N : am_N) : Prop :=
  zk258 (s1 + s0) (l3 + 1) M N
set_option maxRecDepth 10000 in
theorem k_X12_count_p293 {d : Nat} {dm : List am_C} (h3 : am_d3 dm) {post : Int32 → am_I → am_N → Prop} {zk258 : Int32 → Int32 → am_I → am_N → Prop} (zhk258 : ∀ (l2 : Int32) (l3 : Int32) (M : am_I) (N : am_N), zk258 l2 l3 M N → jg (d + 3) mX12_count dm 258 [(0, .inr (.inr (3, 0, 0))), (2, .inl l2), (3, .inl l3)] [] M N (am_pi post)) (l3 : Int32) (s0 : Int32) (s1 : Int32) (M : am_I) (N : am_N) (h : w_X12_count_p293 post zk258 l3 s0 s1 M N) : jg (d + 3) mX12_count dm 293 [(0, .inr (.inr (3, 0, 0))), (3, .inl l3)] [.inl s0, .inl s1] M N (am_pi post) := by
  refine j_iadd dX12_count_293 ?_
  refine j_istore_n dX12_count_294 (by decide) rfl ?_
  refine j_iinc 2 dX12_count_295 rfl rfl (by decide) rfl ?_
  refine j_goto (tgt := 258) dX12_count_298 (by decide) ?_
  refine j_sub [2, 1, 0] rfl ?_
  exact zhk258 _ _ _ _ h
def w_X12_count_p258_b (post : Int32 → am_I → am_N → Prop) (zk258 : Int32 → Int32 → am_I → am_N → Prop) (l2 : Int32) (l3 : Int32) (M : am_I) (N : am_N) : Prop :=
  ((64 ≤ l3 → post l2 M N) ∧ (¬ 64 ≤ l3 → vp_in (192 + l3) 1635 ∧ ((¬ (M (3, 0, 1) (192 + l3).toNatClampNeg) = 1 → w_X12_count_p293 post zk258 l3 0 l2 M N) ∧ ((M (3, 0, 1) (192 + l3).toNatClampNeg) = 1 → vp_in (448 + l3) 1635 ∧ w_X12_count_p293 post zk258 l3 (M (3, 0, 1) (448 + l3).toNatClampNeg) l2 M N))))
noncomputable def w_X12_count_p258 (post : Int32 → am_I → am_N → Prop) (n : Nat) : Int32 → Int32 → am_I → am_N → Prop :=
  Nat.rec (motive := fun _ => Int32 → Int32 → am_I → am_N → Prop) (fun _ _ _ _ => False) (fun _ zk => w_X12_count_p258_b post zk) n
theorem w_X12_count_p258_s (post : Int32 → am_I → am_N → Prop) (n : Nat) (l2 : Int32) (l3 : Int32) (M : am_I) (N : am_N) : w_X12_count_p258 post (n + 1) l2 l3 M N = w_X12_count_p258_b post (w_X12_count_p258 post n) l2 l3 M N := rfl
set_option maxRecDepth 10000 in
theorem k_X12_count_p258 {d : Nat} {dm : List am_C} (h3 : am_d3 dm) {post : Int32 → am_I → am_N → Prop} : ∀ (n : Nat) (l2 : Int32) (l3 : Int32) (M : am_I) (N : am_N), w_X12_count_p258 post n l2 l3 M N → jg (d + 3) mX12_count dm 258 [(0, .inr (.inr (3, 0, 0))), (2, .inl l2), (3, .inl l3)] [] M N (am_pi post) := by
  intro n
  induction n with
  | zero => intro l2 l3 M N h; exact h.elim
  | succ n zih =>
    intro l2 l3 M N h
    replace h : w_X12_count_p258_b post (w_X12_count_p258 post n) l2 l3 M N := h
    refine j_iload_n 2 dX12_count_258 rfl ?_
    refine j_bipush (v := 64) dX12_count_259 (by decide) ?_
    refine j_icmp_ge (tgt := 301) dX12_count_261 (by decide) (fun hc => ?_) (fun hc => ?_)
    · replace h := h.1 hc
      refine j_iload_n 1 dX12_count_301 rfl ?_
      exact j_iret dX12_count_302 rfl ⟨_, rfl, h⟩
    · replace h := h.2 hc
      refine j_iload_n 1 dX12_count_264 rfl ?_
      refine j_aload_n 0 dX12_count_265 rfl ?_
      refine j_getR (b := (3, 0, 1)) dX12_count_266 fsRX12_7 (h3 0 (by decide)) rfl rfl ?_
      refine j_sipush (v := 192) dX12_count_269 (by decide) ?_
      refine j_iload_n 2 dX12_count_272 rfl ?_
      refine j_iadd dX12_count_273 ?_
      obtain ⟨hq, h⟩ := h
      refine j_iald dX12_count_274 (h3 1 (by decide)) rfl hq ?_
      refine j_iconst (v := 1) dX12_count_275 (by decide) ?_
      refine j_icmp_ne (tgt := 292) dX12_count_276 (by decide) (fun hc => ?_) (fun hc => ?_)
      · replace h := h.1 hc
        refine j_iconst (v := 0) dX12_count_292 (by decide) ?_
        refine j_sub [0, 2] rfl ?_
        exact k_X12_count_p293 h3 zih _ _ _ _ _ h
      · replace h := h.2 hc
        refine j_aload_n 0 dX12_count_279 rfl ?_
        refine j_getR (b := (3, 0, 1)) dX12_count_280 fsRX12_7 (h3 0 (by decide)) rfl rfl ?_
        refine j_sipush (v := 448) dX12_count_283 (by decide) ?_
        refine j_iload_n 2 dX12_count_286 rfl ?_
        refine j_iadd dX12_count_287 ?_
        obtain ⟨hq, h⟩ := h
        refine j_iald dX12_count_288 (h3 1 (by decide)) rfl hq ?_
        refine j_goto (tgt := 293) dX12_count_289 (by decide) ?_
        refine j_sub [0, 2] rfl ?_
        exact k_X12_count_p293 h3 zih _ _ _ _ _ h
def w_X12_count (a1 : Int32) (M : am_I) (N : am_N) (post : Int32 → am_I → am_N → Prop) : Prop :=
  ((a1 = 0 → post (M (3, 0, 1) 1624) M N) ∧ (a1 = 1 → post (M (3, 0, 0) 4) M N) ∧ (a1 = 2 → post (M (3, 0, 0) 10) M N) ∧ (a1 = 3 → post (M (3, 0, 0) 11) M N) ∧ (a1 = 4 → post (M (3, 0, 0) 12) M N) ∧ (a1 = 5 → w_X12_manyOf 1504 0 M N (fun zr1 zM2 zN3 => post zr1 zM2 zN3)) ∧ (a1 = 6 → w_X12_manyOf 1504 2 M N (fun zr4 zM5 zN6 => post zr4 zM5 zN6)) ∧ (a1 = 7 → post (M (3, 0, 0) 13) M N) ∧ (a1 = 8 → post (M (3, 0, 0) 14) M N) ∧ (a1 = 9 → ∃ n, w_X12_count_p143 post n 0 0 M N) ∧ (a1 = 10 → w_X12_illMany M N (fun zr7 zM8 zN9 => post zr7 zM8 zN9)) ∧ (a1 = 11 → post (M (3, 0, 0) 42) M N) ∧ (a1 = 12 → post (M (3, 0, 0) 45) M N) ∧ (a1 = 13 → ((¬ (M (3, 0, 0) 45) = 0 → vp_in ((M (3, 0, 0) 45) - 1) 9 ∧ post (M (3, 0, 34) ((M (3, 0, 0) 45) - 1).toNatClampNeg) M N) ∧ ((M (3, 0, 0) 45) = 0 → post 0 M N))) ∧ (a1 = 14 → post (M (3, 0, 0) 47) M N) ∧ (a1 = 15 → ∃ n, w_X12_count_p215 post n 0 0 M N) ∧ (a1 = 16 → ∃ n, w_X12_count_p258 post n 0 0 M N) ∧ (¬ a1 = 0 → ¬ a1 = 1 → ¬ a1 = 2 → ¬ a1 = 3 → ¬ a1 = 4 → ¬ a1 = 5 → ¬ a1 = 6 → ¬ a1 = 7 → ¬ a1 = 8 → ¬ a1 = 9 → ¬ a1 = 10 → ¬ a1 = 11 → ¬ a1 = 12 → ¬ a1 = 13 → ¬ a1 = 14 → ¬ a1 = 15 → ¬ a1 = 16 → post (-1) M N))
set_option maxRecDepth 10000 in
theorem k_X12_count {d : Nat} {dm : List am_C} (h3 : am_d3 dm) {a1 : Int32} {M : am_I} {N : am_N} {post : Int32 → am_I → am_N → Prop} (h : w_X12_count a1 M N post) : jg (d + 3) mX12_count dm 0 [(0, .inr (.inr (3, 0, 0))), (1, .inl a1)] [] M N (am_pi post) := by
  refine j_iconst (v := 0) dX12_count_0 (by decide) ?_
  refine j_istore_n dX12_count_1 (by decide) rfl ?_
  refine j_iload_n 2 dX12_count_2 rfl ?_
  by_cases hs0 : a1 = 0
  · replace h := h.1 hs0
    refine j_tabK (k := 0) (tgt := 84) (off := 81) dX12_count_3 hs0 (by decide) (by decide) (by decide) (by decide) ?_
    refine j_aload_n 1 dX12_count_84 rfl ?_
    refine j_getR (b := (3, 0, 1)) dX12_count_85 fsRX12_7 (h3 0 (by decide)) rfl rfl ?_
    refine j_sipush (v := 1624) dX12_count_88 (by decide) ?_
    refine j_iald dX12_count_91 (h3 1 (by decide)) rfl (by unfold vp_in; decide) ?_
    exact j_iret dX12_count_92 rfl ⟨_, rfl, h⟩
  by_cases hs1 : a1 = 1
  · replace h := h.2.1 hs1
    refine j_tabK (k := 1) (tgt := 93) (off := 90) dX12_count_3 hs1 (by decide) (by decide) (by decide) (by decide) ?_
    refine j_aload_n 1 dX12_count_93 rfl ?_
    refine j_getI dX12_count_94 fsRX12_175 (h3 0 (by decide)) rfl ?_
    exact j_iret dX12_count_97 rfl ⟨_, rfl, h⟩
  by_cases hs2 : a1 = 2
  · replace h := h.2.2.1 hs2
    refine j_tabK (k := 2) (tgt := 98) (off := 95) dX12_count_3 hs2 (by decide) (by decide) (by decide) (by decide) ?_
    refine j_aload_n 1 dX12_count_98 rfl ?_
    refine j_getI dX12_count_99 fsRX12_210 (h3 0 (by decide)) rfl ?_
    exact j_iret dX12_count_102 rfl ⟨_, rfl, h⟩
  by_cases hs3 : a1 = 3
  · replace h := h.2.2.2.1 hs3
    refine j_tabK (k := 3) (tgt := 103) (off := 100) dX12_count_3 hs3 (by decide) (by decide) (by decide) (by decide) ?_
    refine j_aload_n 1 dX12_count_103 rfl ?_
    refine j_getI dX12_count_104 fsRX12_213 (h3 0 (by decide)) rfl ?_
    exact j_iret dX12_count_107 rfl ⟨_, rfl, h⟩
  by_cases hs4 : a1 = 4
  · replace h := h.2.2.2.2.1 hs4
    refine j_tabK (k := 4) (tgt := 108) (off := 105) dX12_count_3 hs4 (by decide) (by decide) (by decide) (by decide) ?_
    refine j_aload_n 1 dX12_count_108 rfl ?_
    refine j_getI dX12_count_109 fsRX12_219 (h3 0 (by decide)) rfl ?_
    exact j_iret dX12_count_112 rfl ⟨_, rfl, h⟩
  by_cases hs5 : a1 = 5
  · replace h := h.2.2.2.2.2.1 hs5
    refine j_tabK (k := 5) (tgt := 113) (off := 110) dX12_count_3 hs5 (by decide) (by decide) (by decide) (by decide) ?_
    refine j_aload_n 1 dX12_count_113 rfl ?_
    refine j_sipush (v := 1504) dX12_count_114 (by decide) ?_
    refine j_iconst (v := 0) dX12_count_117 (by decide) ?_
    refine j_invV (As := [.inl 1504, .inl 0]) dX12_count_118 msRX12_504 mbX12_manyOf rfl rfl (Nat.le_of_ble_eq_true rfl) (Nat.le_of_ble_eq_true rfl) (by omega) (h3 0 (by decide)) rfl rfl (k_X12_manyOf (d := d + 0) h3 h) ?_
    rintro _ zM2 zN3 ⟨zr1, rfl, h⟩
    exact j_iret dX12_count_121 rfl ⟨_, rfl, h⟩
  by_cases hs6 : a1 = 6
  · replace h := h.2.2.2.2.2.2.1 hs6
    refine j_tabK (k := 6) (tgt := 122) (off := 119) dX12_count_3 hs6 (by decide) (by decide) (by decide) (by decide) ?_
    refine j_aload_n 1 dX12_count_122 rfl ?_
    refine j_sipush (v := 1504) dX12_count_123 (by decide) ?_
    refine j_iconst (v := 2) dX12_count_126 (by decide) ?_
    refine j_invV (As := [.inl 1504, .inl 2]) dX12_count_127 msRX12_504 mbX12_manyOf rfl rfl (Nat.le_of_ble_eq_true rfl) (Nat.le_of_ble_eq_true rfl) (by omega) (h3 0 (by decide)) rfl rfl (k_X12_manyOf (d := d + 0) h3 h) ?_
    rintro _ zM5 zN6 ⟨zr4, rfl, h⟩
    exact j_iret dX12_count_130 rfl ⟨_, rfl, h⟩
  by_cases hs7 : a1 = 7
  · replace h := h.2.2.2.2.2.2.2.1 hs7
    refine j_tabK (k := 7) (tgt := 131) (off := 128) dX12_count_3 hs7 (by decide) (by decide) (by decide) (by decide) ?_
    refine j_aload_n 1 dX12_count_131 rfl ?_
    refine j_getI dX12_count_132 fsRX12_222 (h3 0 (by decide)) rfl ?_
    exact j_iret dX12_count_135 rfl ⟨_, rfl, h⟩
  by_cases hs8 : a1 = 8
  · replace h := h.2.2.2.2.2.2.2.2.1 hs8
    refine j_tabK (k := 8) (tgt := 136) (off := 133) dX12_count_3 hs8 (by decide) (by decide) (by decide) (by decide) ?_
    refine j_aload_n 1 dX12_count_136 rfl ?_
    refine j_getI dX12_count_137 fsRX12_225 (h3 0 (by decide)) rfl ?_
    exact j_iret dX12_count_140 rfl ⟨_, rfl, h⟩
  by_cases hs9 : a1 = 9
  · replace h := h.2.2.2.2.2.2.2.2.2.1 hs9
    refine j_tabK (k := 9) (tgt := 141) (off := 138) dX12_count_3 hs9 (by decide) (by decide) (by decide) (by decide) ?_
    refine j_iconst (v := 0) dX12_count_141 (by decide) ?_
    refine j_istore_n dX12_count_142 (by decide) rfl ?_
    refine j_sub [2, 1, 0] rfl ?_
    obtain ⟨n, h⟩ := h
    exact k_X12_count_p143 h3 n _ _ _ _ h
  by_cases hs10 : a1 = 10
  · replace h := h.2.2.2.2.2.2.2.2.2.2.1 hs10
    refine j_tabK (k := 10) (tgt := 170) (off := 167) dX12_count_3 hs10 (by decide) (by decide) (by decide) (by decide) ?_
    refine j_aload_n 1 dX12_count_170 rfl ?_
    refine j_invV (As := []) dX12_count_171 msRX12_334 mbX12_illMany rfl rfl (Nat.le_of_ble_eq_true rfl) (Nat.le_of_ble_eq_true rfl) (by omega) (h3 0 (by decide)) rfl rfl (k_X12_illMany (d := d + 0) h3 h) ?_
    rintro _ zM8 zN9 ⟨zr7, rfl, h⟩
    exact j_iret dX12_count_174 rfl ⟨_, rfl, h⟩
  by_cases hs11 : a1 = 11
  · replace h := h.2.2.2.2.2.2.2.2.2.2.2.1 hs11
    refine j_tabK (k := 11) (tgt := 175) (off := 172) dX12_count_3 hs11 (by decide) (by decide) (by decide) (by decide) ?_
    refine j_aload_n 1 dX12_count_175 rfl ?_
    refine j_getI dX12_count_176 fsRX12_353 (h3 0 (by decide)) rfl ?_
    exact j_iret dX12_count_179 rfl ⟨_, rfl, h⟩
  by_cases hs12 : a1 = 12
  · replace h := h.2.2.2.2.2.2.2.2.2.2.2.2.1 hs12
    refine j_tabK (k := 12) (tgt := 180) (off := 177) dX12_count_3 hs12 (by decide) (by decide) (by decide) (by decide) ?_
    refine j_aload_n 1 dX12_count_180 rfl ?_
    refine j_getI dX12_count_181 fsRX12_461 (h3 0 (by decide)) rfl ?_
    exact j_iret dX12_count_184 rfl ⟨_, rfl, h⟩
  by_cases hs13 : a1 = 13
  · replace h := h.2.2.2.2.2.2.2.2.2.2.2.2.2.1 hs13
    refine j_tabK (k := 13) (tgt := 185) (off := 182) dX12_count_3 hs13 (by decide) (by decide) (by decide) (by decide) ?_
    refine j_aload_n 1 dX12_count_185 rfl ?_
    refine j_getI dX12_count_186 fsRX12_461 (h3 0 (by decide)) rfl ?_
    refine j_if_ne (tgt := 196) dX12_count_189 (by decide) (fun hc => ?_) (fun hc => ?_)
    · replace h := h.1 hc
      refine j_aload_n 1 dX12_count_196 rfl ?_
      refine j_getR (b := (3, 0, 34)) dX12_count_197 fsRX12_118 (h3 0 (by decide)) rfl rfl ?_
      refine j_aload_n 1 dX12_count_200 rfl ?_
      refine j_getI dX12_count_201 fsRX12_461 (h3 0 (by decide)) rfl ?_
      refine j_iconst (v := 1) dX12_count_204 (by decide) ?_
      refine j_isub dX12_count_205 ?_
      obtain ⟨hq, h⟩ := h
      refine j_iald dX12_count_206 (h3 34 (by decide)) rfl hq ?_
      exact j_iret dX12_count_207 rfl ⟨_, rfl, h⟩
    · replace h := h.2 hc
      refine j_iconst (v := 0) dX12_count_192 (by decide) ?_
      refine j_goto (tgt := 207) dX12_count_193 (by decide) ?_
      exact j_iret dX12_count_207 rfl ⟨_, rfl, h⟩
  by_cases hs14 : a1 = 14
  · replace h := h.2.2.2.2.2.2.2.2.2.2.2.2.2.2.1 hs14
    refine j_tabK (k := 14) (tgt := 208) (off := 205) dX12_count_3 hs14 (by decide) (by decide) (by decide) (by decide) ?_
    refine j_aload_n 1 dX12_count_208 rfl ?_
    refine j_getI dX12_count_209 fsRX12_360 (h3 0 (by decide)) rfl ?_
    exact j_iret dX12_count_212 rfl ⟨_, rfl, h⟩
  by_cases hs15 : a1 = 15
  · replace h := h.2.2.2.2.2.2.2.2.2.2.2.2.2.2.2.1 hs15
    refine j_tabK (k := 15) (tgt := 213) (off := 210) dX12_count_3 hs15 (by decide) (by decide) (by decide) (by decide) ?_
    refine j_iconst (v := 0) dX12_count_213 (by decide) ?_
    refine j_istore_n dX12_count_214 (by decide) rfl ?_
    refine j_sub [2, 1, 0] rfl ?_
    obtain ⟨n, h⟩ := h
    exact k_X12_count_p215 h3 n _ _ _ _ h
  by_cases hs16 : a1 = 16
  · replace h := h.2.2.2.2.2.2.2.2.2.2.2.2.2.2.2.2.1 hs16
    refine j_tabK (k := 16) (tgt := 256) (off := 253) dX12_count_3 hs16 (by decide) (by decide) (by decide) (by decide) ?_
    refine j_iconst (v := 0) dX12_count_256 (by decide) ?_
    refine j_istore_n dX12_count_257 (by decide) rfl ?_
    refine j_sub [2, 1, 0] rfl ?_
    obtain ⟨n, h⟩ := h
    exact k_X12_count_p258 h3 n _ _ _ _ h
  replace h := h.2.2.2.2.2.2.2.2.2.2.2.2.2.2.2.2.2 hs0 hs1 hs2 hs3 hs4 hs5 hs6 hs7 hs8 hs9 hs10 hs11 hs12 hs13 hs14 hs15 hs16
  refine j_tableOut (tgt := 303) dX12_count_3 (am_sw0 (n := 16) (fun k hk => match k, hk with | 0, _ => hs0 | 1, _ => hs1 | 2, _ => hs2 | 3, _ => hs3 | 4, _ => hs4 | 5, _ => hs5 | 6, _ => hs6 | 7, _ => hs7 | 8, _ => hs8 | 9, _ => hs9 | 10, _ => hs10 | 11, _ => hs11 | 12, _ => hs12 | 13, _ => hs13 | 14, _ => hs14 | 15, _ => hs15 | 16, _ => hs16 | k + 17, hk => absurd hk (by omega))) (by decide) ?_
  refine j_iconst (v := (-1)) dX12_count_303 (by decide) ?_
  exact j_iret dX12_count_304 rfl ⟨_, rfl, h⟩
def w_X12_far (a1 : Int32) (a2 : Int32) (M : am_I) (N : am_N) (post : Int32 → am_I → am_N → Prop) : Prop :=
  w_J9_abs_0f7a4 ((am_rem a1 8) - (am_rem a2 8)) M N (fun zr1 zM2 zN3 => w_J9_abs_0f7a4 ((a1 / 8) - (a2 / 8)) zM2 zN3 (fun zr4 zM5 zN6 => post (zr1 + zr4) zM5 zN6))
set_option maxRecDepth 10000 in
theorem k_X12_far {d : Nat} {dm : List am_C}  {a1 : Int32} {a2 : Int32} {M : am_I} {N : am_N} {post : Int32 → am_I → am_N → Prop} (h : w_X12_far a1 a2 M N post) : jg (d + 2) mX12_far dm 0 [(0, .inl a1), (1, .inl a2)] [] M N (am_pi post) := by
  refine j_iload_n 0 dX12_far_0 rfl ?_
  refine j_bipush (v := 8) dX12_far_1 (by decide) ?_
  refine j_irem dX12_far_3 (by decide) ?_
  refine j_iload_n 1 dX12_far_4 rfl ?_
  refine j_bipush (v := 8) dX12_far_5 (by decide) ?_
  refine j_irem dX12_far_7 (by decide) ?_
  refine j_isub dX12_far_8 ?_
  refine j_invS (As := [.inl ((am_rem a1 8) - (am_rem a2 8))]) dX12_far_9 msRX12_166 mbJ9_abs_0f7a4 rfl rfl (Nat.le_of_ble_eq_true rfl) (Nat.le_of_ble_eq_true rfl) (by omega) (k_J9_abs_0f7a4 (d := d + 0)  h) ?_
  rintro _ zM2 zN3 ⟨zr1, rfl, h⟩
  refine j_iload_n 0 dX12_far_12 rfl ?_
  refine j_bipush (v := 8) dX12_far_13 (by decide) ?_
  refine j_idiv dX12_far_15 (by decide) ?_
  refine j_iload_n 1 dX12_far_16 rfl ?_
  refine j_bipush (v := 8) dX12_far_17 (by decide) ?_
  refine j_idiv dX12_far_19 (by decide) ?_
  refine j_isub dX12_far_20 ?_
  refine j_invS (As := [.inl ((a1 / 8) - (a2 / 8))]) dX12_far_21 msRX12_166 mbJ9_abs_0f7a4 rfl rfl (Nat.le_of_ble_eq_true rfl) (Nat.le_of_ble_eq_true rfl) (by omega) (k_J9_abs_0f7a4 (d := d + 0)  h) ?_
  rintro _ zM5 zN6 ⟨zr4, rfl, h⟩
  refine j_iadd dX12_far_24 ?_
  exact j_iret dX12_far_25 rfl ⟨_, rfl, h⟩
def w_X12_does_p175 (post : am_I → am_N → Prop) (l2 : Int32) (s0 : Int32) (s1 : Int32) (M : am_I) (N : am_N) : Prop :=
  vp_in s1 1635 ∧ vp_in (1564 + l2) 1635 ∧ post (am_u (am_u (am_u M (3, 0, 1) s1.toNatClampNeg s0) (3, 0, 1) (1564 + l2).toNatClampNeg (-1)) (3, 0, 1) 1632 (((am_u (am_u M (3, 0, 1) s1.toNatClampNeg s0) (3, 0, 1) (1564 + l2).toNatClampNeg (-1)) (3, 0, 1) 1632) + 1)) N
set_option maxRecDepth 10000 in
theorem k_X12_does_p175 {d : Nat} {dm : List am_C} (h3 : am_d3 dm) {post : am_I → am_N → Prop} (l2 : Int32) (s0 : Int32) (s1 : Int32) (M : am_I) (N : am_N) (h : w_X12_does_p175 post l2 s0 s1 M N) : jg (d + 3) mX12_does dm 175 [(0, .inr (.inr (3, 0, 0))), (2, .inl l2)] [.inl s0, .inl s1, .inr (.inr (3, 0, 1))] M N (am_pv post) := by
  obtain ⟨hq, h⟩ := h
  refine j_iast dX12_does_175 (h3 1 (by decide)) rfl hq ?_
  refine j_aload_n 0 dX12_does_176 rfl ?_
  refine j_getR (b := (3, 0, 1)) dX12_does_177 fsRX12_7 (h3 0 (by decide)) rfl rfl ?_
  refine j_sipush (v := 1564) dX12_does_180 (by decide) ?_
  refine j_iload_n 1 dX12_does_183 rfl ?_
  refine j_iadd dX12_does_184 ?_
  refine j_iconst (v := (-1)) dX12_does_185 (by decide) ?_
  obtain ⟨hq, h⟩ := h
  refine j_iast dX12_does_186 (h3 1 (by decide)) rfl hq ?_
  refine j_aload_n 0 dX12_does_187 rfl ?_
  refine j_getR (b := (3, 0, 1)) dX12_does_188 fsRX12_7 (h3 0 (by decide)) rfl rfl ?_
  refine j_sipush (v := 1632) dX12_does_191 (by decide) ?_
  refine j_dup2 dX12_does_194 rfl rfl ?_
  refine j_iald dX12_does_195 (h3 1 (by decide)) rfl (by unfold vp_in; decide) ?_
  refine j_iconst (v := 1) dX12_does_196 (by decide) ?_
  refine j_iadd dX12_does_197 ?_
  refine j_iast dX12_does_198 (h3 1 (by decide)) rfl (by unfold vp_in; decide) ?_
  refine j_goto (tgt := 301) dX12_does_199 (by decide) ?_
  exact j_vret dX12_does_301 rfl ⟨rfl, h⟩
def w_X12_does (a1 : Int32) (M : am_I) (N : am_N) (post : am_I → am_N → Prop) : Prop :=
  vp_in a1 400 ∧ ∀ zv1 : Int32, zv1 = M (3, 0, 5) a1.toNatClampNeg → vp_in a1 400 ∧ ∀ zv2 : Int32, zv2 = M (3, 0, 6) a1.toNatClampNeg → vp_in a1 400 ∧ (((M (3, 0, 3) a1.toNatClampNeg) = 0 → vp_in (0 + zv1) 1635 ∧ vp_in a1 400 ∧ vp_in (64 + zv1) 1635 ∧ post (am_u (am_u M (3, 0, 1) (0 + zv1).toNatClampNeg zv2) (3, 0, 1) (64 + zv1).toNatClampNeg ((am_u M (3, 0, 1) (0 + zv1).toNatClampNeg zv2) (3, 0, 7) a1.toNatClampNeg)) N) ∧ ((M (3, 0, 3) a1.toNatClampNeg) = 1 → vp_in (1626 + zv1) 1635 ∧ post (am_u M (3, 0, 1) (1626 + zv1).toNatClampNeg zv2) N) ∧ ((M (3, 0, 3) a1.toNatClampNeg) = 2 → post (am_u M (3, 0, 1) 1630 ((M (3, 0, 1) 1630) + 1)) N) ∧ ((M (3, 0, 3) a1.toNatClampNeg) = 3 → w_X12_comes zv1 M N (fun zM3 zN4 => post zM3 zN4)) ∧ ((M (3, 0, 3) a1.toNatClampNeg) = 4 → w_X12_charged zv1 M N (fun zM5 zN6 => post zM5 zN6)) ∧ ((M (3, 0, 3) a1.toNatClampNeg) = 5 → w_X12_isBut 2 zv1 M N (fun zr7 zM8 zN9 => ((zr7 = 0 → w_X12_does_p175 post zv1 0 (1504 + zv1) zM8 zN9) ∧ (¬ zr7 = 0 → w_X12_does_p175 post zv1 3 (1504 + zv1) zM8 zN9)))) ∧ ((M (3, 0, 3) a1.toNatClampNeg) = 6 → post (am_u M (3, 0, 1) 1633 ((M (3, 0, 1) 1633) + 1)) N) ∧ ((M (3, 0, 3) a1.toNatClampNeg) = 7 → post (am_u M (3, 0, 1) 1634 ((M (3, 0, 1) 1634) + 1)) N) ∧ ((M (3, 0, 3) a1.toNatClampNeg) = 8 → vp_in (192 + zv1) 1635 ∧ ((¬ (M (3, 0, 1) (192 + zv1).toNatClampNeg) = 0 → post M N) ∧ ((M (3, 0, 1) (192 + zv1).toNatClampNeg) = 0 → w_X12_grows zv1 M N (fun zM10 zN11 => post zM10 zN11)))) ∧ ((M (3, 0, 3) a1.toNatClampNeg) = 9 → vp_in (512 + zv1) 1635 ∧ post (am_u M (3, 0, 1) (512 + zv1).toNatClampNeg zv2) N) ∧ ((M (3, 0, 3) a1.toNatClampNeg) = 10 → w_X12_seen zv1 zv2 M N (fun zM12 zN13 => post zM12 zN13)) ∧ (¬ (M (3, 0, 3) a1.toNatClampNeg) = 0 → ¬ (M (3, 0, 3) a1.toNatClampNeg) = 1 → ¬ (M (3, 0, 3) a1.toNatClampNeg) = 2 → ¬ (M (3, 0, 3) a1.toNatClampNeg) = 3 → ¬ (M (3, 0, 3) a1.toNatClampNeg) = 4 → ¬ (M (3, 0, 3) a1.toNatClampNeg) = 5 → ¬ (M (3, 0, 3) a1.toNatClampNeg) = 6 → ¬ (M (3, 0, 3) a1.toNatClampNeg) = 7 → ¬ (M (3, 0, 3) a1.toNatClampNeg) = 8 → ¬ (M (3, 0, 3) a1.toNatClampNeg) = 9 → ¬ (M (3, 0, 3) a1.toNatClampNeg) = 10 → vp_in (192 + zv1) 1635 ∧ ((¬ (M (3, 0, 1) (192 + zv1).toNatClampNeg) = 1 → post M N) ∧ ((M (3, 0, 1) (192 + zv1).toNatClampNeg) = 1 → vp_in (320 + zv1) 1635 ∧ post (am_u M (3, 0, 1) (320 + zv1).toNatClampNeg zv2) N))))
set_option maxRecDepth 10000 in
theorem k_X12_does {d : Nat} {dm : List am_C} (h3 : am_d3 dm) {a1 : Int32} {M : am_I} {N : am_N} {post : am_I → am_N → Prop} (h : w_X12_does a1 M N post) : jg (d + 3) mX12_does dm 0 [(0, .inr (.inr (3, 0, 0))), (1, .inl a1)] [] M N (am_pv post) := by
  refine j_aload_n 0 dX12_does_0 rfl ?_
  refine j_getR (b := (3, 0, 5)) dX12_does_1 fsRX12_22 (h3 0 (by decide)) rfl rfl ?_
  refine j_iload_n 1 dX12_does_4 rfl ?_
  obtain ⟨hq, h⟩ := h
  refine j_iald dX12_does_5 (h3 5 (by decide)) rfl hq ?_
  refine j_topi (fun zv1 hzv1 => ?_)
  replace h := h zv1 hzv1
  refine j_istore_n dX12_does_6 (by decide) rfl ?_
  refine j_aload_n 1 dX12_does_7 rfl ?_
  refine j_getR (b := (3, 0, 6)) dX12_does_8 fsRX12_25 (h3 0 (by decide)) rfl rfl ?_
  refine j_iload_n 2 dX12_does_11 rfl ?_
  obtain ⟨hq, h⟩ := h
  refine j_iald dX12_does_12 (h3 6 (by decide)) rfl hq ?_
  refine j_topi (fun zv2 hzv2 => ?_)
  replace h := h zv2 hzv2
  refine j_istore_n dX12_does_13 (by decide) rfl ?_
  refine j_aload_n 2 dX12_does_14 rfl ?_
  refine j_getR (b := (3, 0, 3)) dX12_does_15 fsRX12_16 (h3 0 (by decide)) rfl rfl ?_
  refine j_iload_n 3 dX12_does_18 rfl ?_
  obtain ⟨hq, h⟩ := h
  refine j_iald dX12_does_19 (h3 3 (by decide)) rfl hq ?_
  by_cases hs0 : (M (3, 0, 3) a1.toNatClampNeg) = 0
  · replace h := h.1 hs0
    refine j_tabK (k := 0) (tgt := 80) (off := 60) dX12_does_20 hs0 (by decide) (by decide) (by decide) (by decide) ?_
    refine j_aload_n 2 dX12_does_80 rfl ?_
    refine j_getR (b := (3, 0, 1)) dX12_does_81 fsRX12_7 (h3 0 (by decide)) rfl rfl ?_
    refine j_iconst (v := 0) dX12_does_84 (by decide) ?_
    refine j_iload_n 1 dX12_does_85 rfl ?_
    refine j_iadd dX12_does_86 ?_
    refine j_iload_n 0 dX12_does_87 rfl ?_
    obtain ⟨hq, h⟩ := h
    refine j_iast dX12_does_88 (h3 1 (by decide)) rfl hq ?_
    refine j_aload_n 2 dX12_does_89 rfl ?_
    refine j_getR (b := (3, 0, 1)) dX12_does_90 fsRX12_7 (h3 0 (by decide)) rfl rfl ?_
    refine j_bipush (v := 64) dX12_does_93 (by decide) ?_
    refine j_iload_n 1 dX12_does_95 rfl ?_
    refine j_iadd dX12_does_96 ?_
    refine j_aload_n 2 dX12_does_97 rfl ?_
    refine j_getR (b := (3, 0, 7)) dX12_does_98 fsRX12_28 (h3 0 (by decide)) rfl rfl ?_
    refine j_iload_n 3 dX12_does_101 rfl ?_
    obtain ⟨hq, h⟩ := h
    refine j_iald dX12_does_102 (h3 7 (by decide)) rfl hq ?_
    obtain ⟨hq, h⟩ := h
    refine j_iast dX12_does_103 (h3 1 (by decide)) rfl hq ?_
    refine j_goto (tgt := 301) dX12_does_104 (by decide) ?_
    exact j_vret dX12_does_301 rfl ⟨rfl, h⟩
  by_cases hs1 : (M (3, 0, 3) a1.toNatClampNeg) = 1
  · replace h := h.2.1 hs1
    refine j_tabK (k := 1) (tgt := 107) (off := 87) dX12_does_20 hs1 (by decide) (by decide) (by decide) (by decide) ?_
    refine j_aload_n 2 dX12_does_107 rfl ?_
    refine j_getR (b := (3, 0, 1)) dX12_does_108 fsRX12_7 (h3 0 (by decide)) rfl rfl ?_
    refine j_sipush (v := 1626) dX12_does_111 (by decide) ?_
    refine j_iload_n 1 dX12_does_114 rfl ?_
    refine j_iadd dX12_does_115 ?_
    refine j_iload_n 0 dX12_does_116 rfl ?_
    obtain ⟨hq, h⟩ := h
    refine j_iast dX12_does_117 (h3 1 (by decide)) rfl hq ?_
    refine j_goto (tgt := 301) dX12_does_118 (by decide) ?_
    exact j_vret dX12_does_301 rfl ⟨rfl, h⟩
  by_cases hs2 : (M (3, 0, 3) a1.toNatClampNeg) = 2
  · replace h := h.2.2.1 hs2
    refine j_tabK (k := 2) (tgt := 121) (off := 101) dX12_does_20 hs2 (by decide) (by decide) (by decide) (by decide) ?_
    refine j_aload_n 2 dX12_does_121 rfl ?_
    refine j_getR (b := (3, 0, 1)) dX12_does_122 fsRX12_7 (h3 0 (by decide)) rfl rfl ?_
    refine j_sipush (v := 1630) dX12_does_125 (by decide) ?_
    refine j_dup2 dX12_does_128 rfl rfl ?_
    refine j_iald dX12_does_129 (h3 1 (by decide)) rfl (by unfold vp_in; decide) ?_
    refine j_iconst (v := 1) dX12_does_130 (by decide) ?_
    refine j_iadd dX12_does_131 ?_
    refine j_iast dX12_does_132 (h3 1 (by decide)) rfl (by unfold vp_in; decide) ?_
    refine j_goto (tgt := 301) dX12_does_133 (by decide) ?_
    exact j_vret dX12_does_301 rfl ⟨rfl, h⟩
  by_cases hs3 : (M (3, 0, 3) a1.toNatClampNeg) = 3
  · replace h := h.2.2.2.1 hs3
    refine j_tabK (k := 3) (tgt := 136) (off := 116) dX12_does_20 hs3 (by decide) (by decide) (by decide) (by decide) ?_
    refine j_aload_n 2 dX12_does_136 rfl ?_
    refine j_iload_n 1 dX12_does_137 rfl ?_
    refine j_invV (As := [.inl zv1]) dX12_does_138 msRX12_182 mbX12_comes rfl rfl (Nat.le_of_ble_eq_true rfl) (Nat.le_of_ble_eq_true rfl) (by omega) (h3 0 (by decide)) rfl rfl (k_X12_comes (d := d + 1) h3 h) ?_
    rintro _ zM3 zN4 ⟨rfl, h⟩
    refine j_goto (tgt := 301) dX12_does_141 (by decide) ?_
    exact j_vret dX12_does_301 rfl ⟨rfl, h⟩
  by_cases hs4 : (M (3, 0, 3) a1.toNatClampNeg) = 4
  · replace h := h.2.2.2.2.1 hs4
    refine j_tabK (k := 4) (tgt := 144) (off := 124) dX12_does_20 hs4 (by decide) (by decide) (by decide) (by decide) ?_
    refine j_aload_n 2 dX12_does_144 rfl ?_
    refine j_iload_n 1 dX12_does_145 rfl ?_
    refine j_invV (As := [.inl zv1]) dX12_does_146 msRX12_185 mbX12_charged rfl rfl (Nat.le_of_ble_eq_true rfl) (Nat.le_of_ble_eq_true rfl) (by omega) (h3 0 (by decide)) rfl rfl (k_X12_charged (d := d + 0) h3 h) ?_
    rintro _ zM5 zN6 ⟨rfl, h⟩
    refine j_goto (tgt := 301) dX12_does_149 (by decide) ?_
    exact j_vret dX12_does_301 rfl ⟨rfl, h⟩
  by_cases hs5 : (M (3, 0, 3) a1.toNatClampNeg) = 5
  · replace h := h.2.2.2.2.2.1 hs5
    refine j_tabK (k := 5) (tgt := 152) (off := 132) dX12_does_20 hs5 (by decide) (by decide) (by decide) (by decide) ?_
    refine j_aload_n 2 dX12_does_152 rfl ?_
    refine j_getR (b := (3, 0, 1)) dX12_does_153 fsRX12_7 (h3 0 (by decide)) rfl rfl ?_
    refine j_sipush (v := 1504) dX12_does_156 (by decide) ?_
    refine j_iload_n 1 dX12_does_159 rfl ?_
    refine j_iadd dX12_does_160 ?_
    refine j_aload_n 2 dX12_does_161 rfl ?_
    refine j_iconst (v := 2) dX12_does_162 (by decide) ?_
    refine j_iload_n 1 dX12_does_163 rfl ?_
    refine j_invV (As := [.inl 2, .inl zv1]) dX12_does_164 msRX12_188 mbX12_isBut rfl rfl (Nat.le_of_ble_eq_true rfl) (Nat.le_of_ble_eq_true rfl) (by omega) (h3 0 (by decide)) rfl rfl (k_X12_isBut (d := d + 1) h3 h) ?_
    rintro _ zM8 zN9 ⟨zr7, rfl, h⟩
    refine j_if_eq (tgt := 174) dX12_does_167 (by decide) (fun hc => ?_) (fun hc => ?_)
    · replace h := h.1 hc
      refine j_iconst (v := 0) dX12_does_174 (by decide) ?_
      refine j_sub [2, 1] rfl ?_
      exact k_X12_does_p175 h3 _ _ _ _ _ h
    · replace h := h.2 hc
      refine j_iconst (v := 3) dX12_does_170 (by decide) ?_
      refine j_goto (tgt := 175) dX12_does_171 (by decide) ?_
      refine j_sub [2, 1] rfl ?_
      exact k_X12_does_p175 h3 _ _ _ _ _ h
  by_cases hs6 : (M (3, 0, 3) a1.toNatClampNeg) = 6
  · replace h := h.2.2.2.2.2.2.1 hs6
    refine j_tabK (k := 6) (tgt := 202) (off := 182) dX12_does_20 hs6 (by decide) (by decide) (by decide) (by decide) ?_
    refine j_aload_n 2 dX12_does_202 rfl ?_
    refine j_getR (b := (3, 0, 1)) dX12_does_203 fsRX12_7 (h3 0 (by decide)) rfl rfl ?_
    refine j_sipush (v := 1633) dX12_does_206 (by decide) ?_
    refine j_dup2 dX12_does_209 rfl rfl ?_
    refine j_iald dX12_does_210 (h3 1 (by decide)) rfl (by unfold vp_in; decide) ?_
    refine j_iconst (v := 1) dX12_does_211 (by decide) ?_
    refine j_iadd dX12_does_212 ?_
    refine j_iast dX12_does_213 (h3 1 (by decide)) rfl (by unfold vp_in; decide) ?_
    refine j_goto (tgt := 301) dX12_does_214 (by decide) ?_
    exact j_vret dX12_does_301 rfl ⟨rfl, h⟩
  by_cases hs7 : (M (3, 0, 3) a1.toNatClampNeg) = 7
  · replace h := h.2.2.2.2.2.2.2.1 hs7
    refine j_tabK (k := 7) (tgt := 217) (off := 197) dX12_does_20 hs7 (by decide) (by decide) (by decide) (by decide) ?_
    refine j_aload_n 2 dX12_does_217 rfl ?_
    refine j_getR (b := (3, 0, 1)) dX12_does_218 fsRX12_7 (h3 0 (by decide)) rfl rfl ?_
    refine j_sipush (v := 1634) dX12_does_221 (by decide) ?_
    refine j_dup2 dX12_does_224 rfl rfl ?_
    refine j_iald dX12_does_225 (h3 1 (by decide)) rfl (by unfold vp_in; decide) ?_
    refine j_iconst (v := 1) dX12_does_226 (by decide) ?_
    refine j_iadd dX12_does_227 ?_
    refine j_iast dX12_does_228 (h3 1 (by decide)) rfl (by unfold vp_in; decide) ?_
    refine j_goto (tgt := 301) dX12_does_229 (by decide) ?_
    exact j_vret dX12_does_301 rfl ⟨rfl, h⟩
  by_cases hs8 : (M (3, 0, 3) a1.toNatClampNeg) = 8
  · replace h := h.2.2.2.2.2.2.2.2.1 hs8
    refine j_tabK (k := 8) (tgt := 232) (off := 212) dX12_does_20 hs8 (by decide) (by decide) (by decide) (by decide) ?_
    refine j_aload_n 2 dX12_does_232 rfl ?_
    refine j_getR (b := (3, 0, 1)) dX12_does_233 fsRX12_7 (h3 0 (by decide)) rfl rfl ?_
    refine j_sipush (v := 192) dX12_does_236 (by decide) ?_
    refine j_iload_n 1 dX12_does_239 rfl ?_
    refine j_iadd dX12_does_240 ?_
    obtain ⟨hq, h⟩ := h
    refine j_iald dX12_does_241 (h3 1 (by decide)) rfl hq ?_
    refine j_if_ne (tgt := 301) dX12_does_242 (by decide) (fun hc => ?_) (fun hc => ?_)
    · replace h := h.1 hc
      exact j_vret dX12_does_301 rfl ⟨rfl, h⟩
    · replace h := h.2 hc
      refine j_aload_n 2 dX12_does_245 rfl ?_
      refine j_iload_n 1 dX12_does_246 rfl ?_
      refine j_invV (As := [.inl zv1]) dX12_does_247 msRX12_192 mbX12_grows rfl rfl (Nat.le_of_ble_eq_true rfl) (Nat.le_of_ble_eq_true rfl) (by omega) (h3 0 (by decide)) rfl rfl (k_X12_grows (d := d + 1) h3 h) ?_
      rintro _ zM10 zN11 ⟨rfl, h⟩
      refine j_goto (tgt := 301) dX12_does_250 (by decide) ?_
      exact j_vret dX12_does_301 rfl ⟨rfl, h⟩
  by_cases hs9 : (M (3, 0, 3) a1.toNatClampNeg) = 9
  · replace h := h.2.2.2.2.2.2.2.2.2.1 hs9
    refine j_tabK (k := 9) (tgt := 253) (off := 233) dX12_does_20 hs9 (by decide) (by decide) (by decide) (by decide) ?_
    refine j_aload_n 2 dX12_does_253 rfl ?_
    refine j_getR (b := (3, 0, 1)) dX12_does_254 fsRX12_7 (h3 0 (by decide)) rfl rfl ?_
    refine j_sipush (v := 512) dX12_does_257 (by decide) ?_
    refine j_iload_n 1 dX12_does_260 rfl ?_
    refine j_iadd dX12_does_261 ?_
    refine j_iload_n 0 dX12_does_262 rfl ?_
    obtain ⟨hq, h⟩ := h
    refine j_iast dX12_does_263 (h3 1 (by decide)) rfl hq ?_
    refine j_goto (tgt := 301) dX12_does_264 (by decide) ?_
    exact j_vret dX12_does_301 rfl ⟨rfl, h⟩
  by_cases hs10 : (M (3, 0, 3) a1.toNatClampNeg) = 10
  · replace h := h.2.2.2.2.2.2.2.2.2.2.1 hs10
    refine j_tabK (k := 10) (tgt := 267) (off := 247) dX12_does_20 hs10 (by decide) (by decide) (by decide) (by decide) ?_
    refine j_aload_n 2 dX12_does_267 rfl ?_
    refine j_iload_n 1 dX12_does_268 rfl ?_
    refine j_iload_n 0 dX12_does_269 rfl ?_
    refine j_invV (As := [.inl zv1, .inl zv2]) dX12_does_270 msRX12_195 mbX12_seen rfl rfl (Nat.le_of_ble_eq_true rfl) (Nat.le_of_ble_eq_true rfl) (by omega) (h3 0 (by decide)) rfl rfl (k_X12_seen (d := d + 1) h3 h) ?_
    rintro _ zM12 zN13 ⟨rfl, h⟩
    refine j_goto (tgt := 301) dX12_does_273 (by decide) ?_
    exact j_vret dX12_does_301 rfl ⟨rfl, h⟩
  replace h := h.2.2.2.2.2.2.2.2.2.2.2 hs0 hs1 hs2 hs3 hs4 hs5 hs6 hs7 hs8 hs9 hs10
  refine j_tableOut (tgt := 276) dX12_does_20 (am_sw0 (n := 10) (fun k hk => match k, hk with | 0, _ => hs0 | 1, _ => hs1 | 2, _ => hs2 | 3, _ => hs3 | 4, _ => hs4 | 5, _ => hs5 | 6, _ => hs6 | 7, _ => hs7 | 8, _ => hs8 | 9, _ => hs9 | 10, _ => hs10 | k + 11, hk => absurd hk (by omega))) (by decide) ?_
  refine j_aload_n 2 dX12_does_276 rfl ?_
  refine j_getR (b := (3, 0, 1)) dX12_does_277 fsRX12_7 (h3 0 (by decide)) rfl rfl ?_
  refine j_sipush (v := 192) dX12_does_280 (by decide) ?_
  refine j_iload_n 1 dX12_does_283 rfl ?_
  refine j_iadd dX12_does_284 ?_
  obtain ⟨hq, h⟩ := h
  refine j_iald dX12_does_285 (h3 1 (by decide)) rfl hq ?_
  refine j_iconst (v := 1) dX12_does_286 (by decide) ?_
  refine j_icmp_ne (tgt := 301) dX12_does_287 (by decide) (fun hc => ?_) (fun hc => ?_)
  · replace h := h.1 hc
    exact j_vret dX12_does_301 rfl ⟨rfl, h⟩
  · replace h := h.2 hc
    refine j_aload_n 2 dX12_does_290 rfl ?_
    refine j_getR (b := (3, 0, 1)) dX12_does_291 fsRX12_7 (h3 0 (by decide)) rfl rfl ?_
    refine j_sipush (v := 320) dX12_does_294 (by decide) ?_
    refine j_iload_n 1 dX12_does_297 rfl ?_
    refine j_iadd dX12_does_298 ?_
    refine j_iload_n 0 dX12_does_299 rfl ?_
    obtain ⟨hq, h⟩ := h
    refine j_iast dX12_does_300 (h3 1 (by decide)) rfl hq ?_
    exact j_vret dX12_does_301 rfl ⟨rfl, h⟩
def w_X12_isGoal (a1 : Int32) (a2 : Int32) (a3 : Int32) (M : am_I) (N : am_N) (post : Int32 → am_I → am_N → Prop) : Prop :=
  ((a3 = 0 → ((¬ a1 = a2 → post 0 M N) ∧ (a1 = a2 → post 1 M N))) ∧ (¬ a3 = 0 → w_X12_far a1 a2 M N (fun zr1 zM2 zN3 => ((¬ zr1 = 1 → post 0 zM2 zN3) ∧ (zr1 = 1 → post 1 zM2 zN3)))))
set_option maxRecDepth 10000 in
theorem k_X12_isGoal {d : Nat} {dm : List am_C}  {a1 : Int32} {a2 : Int32} {a3 : Int32} {M : am_I} {N : am_N} {post : Int32 → am_I → am_N → Prop} (h : w_X12_isGoal a1 a2 a3 M N post) : jg (d + 3) mX12_isGoal dm 0 [(0, .inl a1), (1, .inl a2), (2, .inl a3)] [] M N (am_pi post) := by
  refine j_iload_n 2 dX12_isGoal_0 rfl ?_
  refine j_if_eq (tgt := 21) dX12_isGoal_1 (by decide) (fun hc => ?_) (fun hc => ?_)
  · replace h := h.1 hc
    refine j_iload_n 0 dX12_isGoal_21 rfl ?_
    refine j_iload_n 1 dX12_isGoal_22 rfl ?_
    refine j_icmp_ne (tgt := 30) dX12_isGoal_23 (by decide) (fun hc => ?_) (fun hc => ?_)
    · replace h := h.1 hc
      refine j_iconst (v := 0) dX12_isGoal_30 (by decide) ?_
      exact j_zret dX12_isGoal_31 rfl (Or.inl rfl) ⟨_, rfl, h⟩
    · replace h := h.2 hc
      refine j_iconst (v := 1) dX12_isGoal_26 (by decide) ?_
      refine j_goto (tgt := 31) dX12_isGoal_27 (by decide) ?_
      exact j_zret dX12_isGoal_31 rfl (Or.inr rfl) ⟨_, rfl, h⟩
  · replace h := h.2 hc
    refine j_iload_n 0 dX12_isGoal_4 rfl ?_
    refine j_iload_n 1 dX12_isGoal_5 rfl ?_
    refine j_invS (As := [.inl a1, .inl a2]) dX12_isGoal_6 msRX12_245 mbX12_far rfl rfl (Nat.le_of_ble_eq_true rfl) (Nat.le_of_ble_eq_true rfl) (by omega) (k_X12_far (d := d + 0)  h) ?_
    rintro _ zM2 zN3 ⟨zr1, rfl, h⟩
    refine j_iconst (v := 1) dX12_isGoal_9 (by decide) ?_
    refine j_icmp_ne (tgt := 17) dX12_isGoal_10 (by decide) (fun hc => ?_) (fun hc => ?_)
    · replace h := h.1 hc
      refine j_iconst (v := 0) dX12_isGoal_17 (by decide) ?_
      refine j_goto (tgt := 31) dX12_isGoal_18 (by decide) ?_
      exact j_zret dX12_isGoal_31 rfl (Or.inl rfl) ⟨_, rfl, h⟩
    · replace h := h.2 hc
      refine j_iconst (v := 1) dX12_isGoal_13 (by decide) ?_
      refine j_goto (tgt := 31) dX12_isGoal_14 (by decide) ?_
      exact j_zret dX12_isGoal_31 rfl (Or.inr rfl) ⟨_, rfl, h⟩
