/-! ===== methods: 23.model1 ===== -/
theorem dX12_begins_0 : decode mX12_begins.2.1 0 = .ok (.iconst 0, 1) := by decide +kernel
theorem dX12_begins_1 : decode mX12_begins.2.1 1 = .ok (.istore_n 1, 1) := by decide +kernel
theorem dX12_begins_2 : decode mX12_begins.2.1 2 = .ok (.iload_n 1, 1) := by decide +kernel
theorem dX12_begins_3 : decode mX12_begins.2.1 3 = .ok (.sipush 1635, 3) := by decide +kernel
theorem dX12_begins_6 : decode mX12_begins.2.1 6 = .ok (.if_icmp .ge 16, 3) := by decide +kernel
theorem dX12_begins_9 : decode mX12_begins.2.1 9 = .ok (.aload_n 0, 1) := by decide +kernel
theorem dX12_begins_10 : decode mX12_begins.2.1 10 = .ok (.getfield 7, 3) := by decide +kernel
theorem dX12_begins_13 : decode mX12_begins.2.1 13 = .ok (.iload_n 1, 1) := by decide +kernel
theorem dX12_begins_14 : decode mX12_begins.2.1 14 = .ok (.iconst 0, 1) := by decide +kernel
theorem dX12_begins_15 : decode mX12_begins.2.1 15 = .ok (.iastore, 1) := by decide +kernel
theorem dX12_begins_16 : decode mX12_begins.2.1 16 = .ok (.iinc 1 1, 3) := by decide +kernel
theorem dX12_begins_19 : decode mX12_begins.2.1 19 = .ok (.goto (-17), 3) := by decide +kernel
theorem dX12_begins_22 : decode mX12_begins.2.1 22 = .ok (.iconst 0, 1) := by decide +kernel
theorem dX12_begins_23 : decode mX12_begins.2.1 23 = .ok (.istore_n 1, 1) := by decide +kernel
theorem dX12_begins_24 : decode mX12_begins.2.1 24 = .ok (.iload_n 1, 1) := by decide +kernel
theorem dX12_begins_25 : decode mX12_begins.2.1 25 = .ok (.bipush 64, 2) := by decide +kernel
theorem dX12_begins_27 : decode mX12_begins.2.1 27 = .ok (.if_icmp .ge 20, 3) := by decide +kernel
theorem dX12_begins_30 : decode mX12_begins.2.1 30 = .ok (.aload_n 0, 1) := by decide +kernel
theorem dX12_begins_31 : decode mX12_begins.2.1 31 = .ok (.getfield 7, 3) := by decide +kernel
theorem dX12_begins_34 : decode mX12_begins.2.1 34 = .ok (.sipush 576, 3) := by decide +kernel
theorem dX12_begins_37 : decode mX12_begins.2.1 37 = .ok (.iload_n 1, 1) := by decide +kernel
theorem dX12_begins_38 : decode mX12_begins.2.1 38 = .ok (.iadd, 1) := by decide +kernel
theorem dX12_begins_39 : decode mX12_begins.2.1 39 = .ok (.iconst 1, 1) := by decide +kernel
theorem dX12_begins_40 : decode mX12_begins.2.1 40 = .ok (.iastore, 1) := by decide +kernel
theorem dX12_begins_41 : decode mX12_begins.2.1 41 = .ok (.iinc 1 1, 3) := by decide +kernel
theorem dX12_begins_44 : decode mX12_begins.2.1 44 = .ok (.goto (-20), 3) := by decide +kernel
theorem dX12_begins_47 : decode mX12_begins.2.1 47 = .ok (.aload_n 0, 1) := by decide +kernel
theorem dX12_begins_48 : decode mX12_begins.2.1 48 = .ok (.getfield 7, 3) := by decide +kernel
theorem dX12_begins_51 : decode mX12_begins.2.1 51 = .ok (.sipush 1626, 3) := by decide +kernel
theorem dX12_begins_54 : decode mX12_begins.2.1 54 = .ok (.sipush 500, 3) := by decide +kernel
theorem dX12_begins_57 : decode mX12_begins.2.1 57 = .ok (.iastore, 1) := by decide +kernel
theorem dX12_begins_58 : decode mX12_begins.2.1 58 = .ok (.aload_n 0, 1) := by decide +kernel
theorem dX12_begins_59 : decode mX12_begins.2.1 59 = .ok (.getfield 7, 3) := by decide +kernel
theorem dX12_begins_62 : decode mX12_begins.2.1 62 = .ok (.sipush 1627, 3) := by decide +kernel
theorem dX12_begins_65 : decode mX12_begins.2.1 65 = .ok (.sipush 200, 3) := by decide +kernel
theorem dX12_begins_68 : decode mX12_begins.2.1 68 = .ok (.iastore, 1) := by decide +kernel
theorem dX12_begins_69 : decode mX12_begins.2.1 69 = .ok (.aload_n 0, 1) := by decide +kernel
theorem dX12_begins_70 : decode mX12_begins.2.1 70 = .ok (.getfield 7, 3) := by decide +kernel
theorem dX12_begins_73 : decode mX12_begins.2.1 73 = .ok (.sipush 1628, 3) := by decide +kernel
theorem dX12_begins_76 : decode mX12_begins.2.1 76 = .ok (.bipush 30, 2) := by decide +kernel
theorem dX12_begins_78 : decode mX12_begins.2.1 78 = .ok (.iastore, 1) := by decide +kernel
theorem dX12_begins_79 : decode mX12_begins.2.1 79 = .ok (.aload_n 0, 1) := by decide +kernel
theorem dX12_begins_80 : decode mX12_begins.2.1 80 = .ok (.getfield 7, 3) := by decide +kernel
theorem dX12_begins_83 : decode mX12_begins.2.1 83 = .ok (.sipush 1629, 3) := by decide +kernel
theorem dX12_begins_86 : decode mX12_begins.2.1 86 = .ok (.iconst 3, 1) := by decide +kernel
theorem dX12_begins_87 : decode mX12_begins.2.1 87 = .ok (.iastore, 1) := by decide +kernel
theorem dX12_begins_88 : decode mX12_begins.2.1 88 = .ok (.aload_n 0, 1) := by decide +kernel
theorem dX12_begins_89 : decode mX12_begins.2.1 89 = .ok (.lconst 0, 1) := by decide +kernel
theorem dX12_begins_90 : decode mX12_begins.2.1 90 = .ok (.putfield 155, 3) := by decide +kernel
theorem dX12_begins_93 : decode mX12_begins.2.1 93 = .ok (.aload_n 0, 1) := by decide +kernel
theorem dX12_begins_94 : decode mX12_begins.2.1 94 = .ok (.lconst 0, 1) := by decide +kernel
theorem dX12_begins_95 : decode mX12_begins.2.1 95 = .ok (.putfield 159, 3) := by decide +kernel
theorem dX12_begins_98 : decode mX12_begins.2.1 98 = .ok (.return_, 1) := by decide +kernel
theorem dX12_isIn_0 : decode mX12_isIn.2.1 0 = .ok (.iload_n 0, 1) := by decide +kernel
theorem dX12_isIn_1 : decode mX12_isIn.2.1 1 = .ok (.iload_n 1, 1) := by decide +kernel
theorem dX12_isIn_2 : decode mX12_isIn.2.1 2 = .ok (.if_icmp .lt 12, 3) := by decide +kernel
theorem dX12_isIn_5 : decode mX12_isIn.2.1 5 = .ok (.iload_n 0, 1) := by decide +kernel
theorem dX12_isIn_6 : decode mX12_isIn.2.1 6 = .ok (.iload_n 2, 1) := by decide +kernel
theorem dX12_isIn_7 : decode mX12_isIn.2.1 7 = .ok (.if_icmp .gt 7, 3) := by decide +kernel
theorem dX12_isIn_10 : decode mX12_isIn.2.1 10 = .ok (.iconst 1, 1) := by decide +kernel
theorem dX12_isIn_11 : decode mX12_isIn.2.1 11 = .ok (.goto 4, 3) := by decide +kernel
theorem dX12_isIn_14 : decode mX12_isIn.2.1 14 = .ok (.iconst 0, 1) := by decide +kernel
theorem dX12_isIn_15 : decode mX12_isIn.2.1 15 = .ok (.ireturn, 1) := by decide +kernel
theorem dX12_one_0 : decode mX12_one.2.1 0 = .ok (.iload_n 0, 1) := by decide +kernel
theorem dX12_one_1 : decode mX12_one.2.1 1 = .ok (.ifCond .eq 7, 3) := by decide +kernel
theorem dX12_one_4 : decode mX12_one.2.1 4 = .ok (.iconst 1, 1) := by decide +kernel
theorem dX12_one_5 : decode mX12_one.2.1 5 = .ok (.goto 4, 3) := by decide +kernel
theorem dX12_one_8 : decode mX12_one.2.1 8 = .ok (.iconst 0, 1) := by decide +kernel
theorem dX12_one_9 : decode mX12_one.2.1 9 = .ok (.ireturn, 1) := by decide +kernel
theorem dX12_isCell_0 : decode mX12_isCell.2.1 0 = .ok (.iload_n 0, 1) := by decide +kernel
theorem dX12_isCell_1 : decode mX12_isCell.2.1 1 = .ok (.iconst 0, 1) := by decide +kernel
theorem dX12_isCell_2 : decode mX12_isCell.2.1 2 = .ok (.bipush 63, 2) := by decide +kernel
theorem dX12_isCell_4 : decode mX12_isCell.2.1 4 = .ok (.invokestatic 162, 3) := by decide +kernel
theorem dX12_isCell_7 : decode mX12_isCell.2.1 7 = .ok (.ireturn, 1) := by decide +kernel
theorem dX12_beside_0 : decode mX12_beside.2.1 0 = .ok (.iload_n 1, 1) := by decide +kernel
theorem dX12_beside_1 : decode mX12_beside.2.1 1 = .ok (.tableswitch 74 0 2 #[27, 42, 57], 27) := by decide +kernel
theorem dX12_beside_28 : decode mX12_beside.2.1 28 = .ok (.iload_n 0, 1) := by decide +kernel
theorem dX12_beside_29 : decode mX12_beside.2.1 29 = .ok (.bipush 8, 2) := by decide +kernel
theorem dX12_beside_31 : decode mX12_beside.2.1 31 = .ok (.if_icmp .lt 10, 3) := by decide +kernel
theorem dX12_beside_34 : decode mX12_beside.2.1 34 = .ok (.iload_n 0, 1) := by decide +kernel
theorem dX12_beside_35 : decode mX12_beside.2.1 35 = .ok (.bipush 8, 2) := by decide +kernel
theorem dX12_beside_37 : decode mX12_beside.2.1 37 = .ok (.isub, 1) := by decide +kernel
theorem dX12_beside_38 : decode mX12_beside.2.1 38 = .ok (.goto 4, 3) := by decide +kernel
theorem dX12_beside_41 : decode mX12_beside.2.1 41 = .ok (.iconst (-1), 1) := by decide +kernel
theorem dX12_beside_42 : decode mX12_beside.2.1 42 = .ok (.ireturn, 1) := by decide +kernel
theorem dX12_beside_43 : decode mX12_beside.2.1 43 = .ok (.iload_n 0, 1) := by decide +kernel
theorem dX12_beside_44 : decode mX12_beside.2.1 44 = .ok (.bipush 8, 2) := by decide +kernel
theorem dX12_beside_46 : decode mX12_beside.2.1 46 = .ok (.irem, 1) := by decide +kernel
theorem dX12_beside_47 : decode mX12_beside.2.1 47 = .ok (.ifCond .le 9, 3) := by decide +kernel
theorem dX12_beside_50 : decode mX12_beside.2.1 50 = .ok (.iload_n 0, 1) := by decide +kernel
theorem dX12_beside_51 : decode mX12_beside.2.1 51 = .ok (.iconst 1, 1) := by decide +kernel
theorem dX12_beside_52 : decode mX12_beside.2.1 52 = .ok (.isub, 1) := by decide +kernel
theorem dX12_beside_53 : decode mX12_beside.2.1 53 = .ok (.goto 4, 3) := by decide +kernel
theorem dX12_beside_56 : decode mX12_beside.2.1 56 = .ok (.iconst (-1), 1) := by decide +kernel
theorem dX12_beside_57 : decode mX12_beside.2.1 57 = .ok (.ireturn, 1) := by decide +kernel
theorem dX12_beside_58 : decode mX12_beside.2.1 58 = .ok (.iload_n 0, 1) := by decide +kernel
theorem dX12_beside_59 : decode mX12_beside.2.1 59 = .ok (.bipush 8, 2) := by decide +kernel
theorem dX12_beside_61 : decode mX12_beside.2.1 61 = .ok (.irem, 1) := by decide +kernel
theorem dX12_beside_62 : decode mX12_beside.2.1 62 = .ok (.bipush 7, 2) := by decide +kernel
theorem dX12_beside_64 : decode mX12_beside.2.1 64 = .ok (.if_icmp .ge 9, 3) := by decide +kernel
theorem dX12_beside_67 : decode mX12_beside.2.1 67 = .ok (.iload_n 0, 1) := by decide +kernel
theorem dX12_beside_68 : decode mX12_beside.2.1 68 = .ok (.iconst 1, 1) := by decide +kernel
theorem dX12_beside_69 : decode mX12_beside.2.1 69 = .ok (.iadd, 1) := by decide +kernel
theorem dX12_beside_70 : decode mX12_beside.2.1 70 = .ok (.goto 4, 3) := by decide +kernel
theorem dX12_beside_73 : decode mX12_beside.2.1 73 = .ok (.iconst (-1), 1) := by decide +kernel
theorem dX12_beside_74 : decode mX12_beside.2.1 74 = .ok (.ireturn, 1) := by decide +kernel
theorem dX12_beside_75 : decode mX12_beside.2.1 75 = .ok (.iload_n 0, 1) := by decide +kernel
theorem dX12_beside_76 : decode mX12_beside.2.1 76 = .ok (.bipush 56, 2) := by decide +kernel
theorem dX12_beside_78 : decode mX12_beside.2.1 78 = .ok (.if_icmp .ge 10, 3) := by decide +kernel
theorem dX12_beside_81 : decode mX12_beside.2.1 81 = .ok (.iload_n 0, 1) := by decide +kernel
theorem dX12_beside_82 : decode mX12_beside.2.1 82 = .ok (.bipush 8, 2) := by decide +kernel
theorem dX12_beside_84 : decode mX12_beside.2.1 84 = .ok (.iadd, 1) := by decide +kernel
theorem dX12_beside_85 : decode mX12_beside.2.1 85 = .ok (.goto 4, 3) := by decide +kernel
theorem dX12_beside_88 : decode mX12_beside.2.1 88 = .ok (.iconst (-1), 1) := by decide +kernel
theorem dX12_beside_89 : decode mX12_beside.2.1 89 = .ok (.ireturn, 1) := by decide +kernel
theorem dX12_isBut_0 : decode mX12_isBut.2.1 0 = .ok (.aload_n 0, 1) := by decide +kernel
theorem dX12_isBut_1 : decode mX12_isBut.2.1 1 = .ok (.getfield 77, 3) := by decide +kernel
theorem dX12_isBut_4 : decode mX12_isBut.2.1 4 = .ok (.iload_n 1, 1) := by decide +kernel
theorem dX12_isBut_5 : decode mX12_isBut.2.1 5 = .ok (.if_icmp .ne 15, 3) := by decide +kernel
theorem dX12_isBut_8 : decode mX12_isBut.2.1 8 = .ok (.aload_n 0, 1) := by decide +kernel
theorem dX12_isBut_9 : decode mX12_isBut.2.1 9 = .ok (.getfield 172, 3) := by decide +kernel
theorem dX12_isBut_12 : decode mX12_isBut.2.1 12 = .ok (.iload_n 2, 1) := by decide +kernel
theorem dX12_isBut_13 : decode mX12_isBut.2.1 13 = .ok (.if_icmp .ne 7, 3) := by decide +kernel
theorem dX12_isBut_16 : decode mX12_isBut.2.1 16 = .ok (.iconst 1, 1) := by decide +kernel
theorem dX12_isBut_17 : decode mX12_isBut.2.1 17 = .ok (.goto 4, 3) := by decide +kernel
theorem dX12_isBut_20 : decode mX12_isBut.2.1 20 = .ok (.iconst 0, 1) := by decide +kernel
theorem dX12_isBut_21 : decode mX12_isBut.2.1 21 = .ok (.ireturn, 1) := by decide +kernel
theorem dX12_comes_0 : decode mX12_comes.2.1 0 = .ok (.aload_n 0, 1) := by decide +kernel
theorem dX12_comes_1 : decode mX12_comes.2.1 1 = .ok (.getfield 7, 3) := by decide +kernel
theorem dX12_comes_4 : decode mX12_comes.2.1 4 = .ok (.sipush 960, 3) := by decide +kernel
theorem dX12_comes_7 : decode mX12_comes.2.1 7 = .ok (.iload_n 1, 1) := by decide +kernel
theorem dX12_comes_8 : decode mX12_comes.2.1 8 = .ok (.iadd, 1) := by decide +kernel
theorem dX12_comes_9 : decode mX12_comes.2.1 9 = .ok (.aload_n 0, 1) := by decide +kernel
theorem dX12_comes_10 : decode mX12_comes.2.1 10 = .ok (.getfield 49, 3) := by decide +kernel
theorem dX12_comes_13 : decode mX12_comes.2.1 13 = .ok (.iload_n 1, 1) := by decide +kernel
theorem dX12_comes_14 : decode mX12_comes.2.1 14 = .ok (.iaload, 1) := by decide +kernel
theorem dX12_comes_15 : decode mX12_comes.2.1 15 = .ok (.iastore, 1) := by decide +kernel
theorem dX12_comes_16 : decode mX12_comes.2.1 16 = .ok (.aload_n 0, 1) := by decide +kernel
theorem dX12_comes_17 : decode mX12_comes.2.1 17 = .ok (.getfield 7, 3) := by decide +kernel
theorem dX12_comes_20 : decode mX12_comes.2.1 20 = .ok (.sipush 968, 3) := by decide +kernel
theorem dX12_comes_23 : decode mX12_comes.2.1 23 = .ok (.iload_n 1, 1) := by decide +kernel
theorem dX12_comes_24 : decode mX12_comes.2.1 24 = .ok (.iadd, 1) := by decide +kernel
theorem dX12_comes_25 : decode mX12_comes.2.1 25 = .ok (.aload_n 0, 1) := by decide +kernel
theorem dX12_comes_26 : decode mX12_comes.2.1 26 = .ok (.getfield 52, 3) := by decide +kernel
theorem dX12_comes_29 : decode mX12_comes.2.1 29 = .ok (.iload_n 1, 1) := by decide +kernel
theorem dX12_comes_30 : decode mX12_comes.2.1 30 = .ok (.iaload, 1) := by decide +kernel
theorem dX12_comes_31 : decode mX12_comes.2.1 31 = .ok (.iastore, 1) := by decide +kernel
theorem dX12_comes_32 : decode mX12_comes.2.1 32 = .ok (.aload_n 0, 1) := by decide +kernel
theorem dX12_comes_33 : decode mX12_comes.2.1 33 = .ok (.getfield 7, 3) := by decide +kernel
theorem dX12_comes_36 : decode mX12_comes.2.1 36 = .ok (.sipush 984, 3) := by decide +kernel
theorem dX12_comes_39 : decode mX12_comes.2.1 39 = .ok (.iload_n 1, 1) := by decide +kernel
theorem dX12_comes_40 : decode mX12_comes.2.1 40 = .ok (.iadd, 1) := by decide +kernel
theorem dX12_comes_41 : decode mX12_comes.2.1 41 = .ok (.iconst (-1), 1) := by decide +kernel
theorem dX12_comes_42 : decode mX12_comes.2.1 42 = .ok (.iastore, 1) := by decide +kernel
theorem dX12_comes_43 : decode mX12_comes.2.1 43 = .ok (.aload_n 0, 1) := by decide +kernel
theorem dX12_comes_44 : decode mX12_comes.2.1 44 = .ok (.getfield 7, 3) := by decide +kernel
theorem dX12_comes_47 : decode mX12_comes.2.1 47 = .ok (.sipush 1631, 3) := by decide +kernel
theorem dX12_comes_50 : decode mX12_comes.2.1 50 = .ok (.dup2, 1) := by decide +kernel
theorem dX12_comes_51 : decode mX12_comes.2.1 51 = .ok (.iaload, 1) := by decide +kernel
theorem dX12_comes_52 : decode mX12_comes.2.1 52 = .ok (.iconst 1, 1) := by decide +kernel
theorem dX12_comes_53 : decode mX12_comes.2.1 53 = .ok (.iadd, 1) := by decide +kernel
theorem dX12_comes_54 : decode mX12_comes.2.1 54 = .ok (.iastore, 1) := by decide +kernel
theorem dX12_comes_55 : decode mX12_comes.2.1 55 = .ok (.return_, 1) := by decide +kernel
theorem dX12_charged_0 : decode mX12_charged.2.1 0 = .ok (.aload_n 0, 1) := by decide +kernel
theorem dX12_charged_1 : decode mX12_charged.2.1 1 = .ok (.iconst 1, 1) := by decide +kernel
theorem dX12_charged_2 : decode mX12_charged.2.1 2 = .ok (.iload_n 1, 1) := by decide +kernel
theorem dX12_charged_3 : decode mX12_charged.2.1 3 = .ok (.invokevirtual 188, 3) := by decide +kernel
theorem dX12_charged_6 : decode mX12_charged.2.1 6 = .ok (.ifCond .ne 17, 3) := by decide +kernel
theorem dX12_charged_9 : decode mX12_charged.2.1 9 = .ok (.aload_n 0, 1) := by decide +kernel
theorem dX12_charged_10 : decode mX12_charged.2.1 10 = .ok (.getfield 7, 3) := by decide +kernel
theorem dX12_charged_13 : decode mX12_charged.2.1 13 = .ok (.sipush 976, 3) := by decide +kernel
theorem dX12_charged_16 : decode mX12_charged.2.1 16 = .ok (.iload_n 1, 1) := by decide +kernel
theorem dX12_charged_17 : decode mX12_charged.2.1 17 = .ok (.iadd, 1) := by decide +kernel
theorem dX12_charged_18 : decode mX12_charged.2.1 18 = .ok (.iaload, 1) := by decide +kernel
theorem dX12_charged_19 : decode mX12_charged.2.1 19 = .ok (.iconst 5, 1) := by decide +kernel
theorem dX12_charged_20 : decode mX12_charged.2.1 20 = .ok (.if_icmp .eq 4, 3) := by decide +kernel
theorem dX12_charged_23 : decode mX12_charged.2.1 23 = .ok (.return_, 1) := by decide +kernel
theorem dX12_charged_24 : decode mX12_charged.2.1 24 = .ok (.aload_n 0, 1) := by decide +kernel
theorem dX12_charged_25 : decode mX12_charged.2.1 25 = .ok (.getfield 7, 3) := by decide +kernel
theorem dX12_charged_28 : decode mX12_charged.2.1 28 = .ok (.sipush 968, 3) := by decide +kernel
theorem dX12_charged_31 : decode mX12_charged.2.1 31 = .ok (.iload_n 1, 1) := by decide +kernel
theorem dX12_charged_32 : decode mX12_charged.2.1 32 = .ok (.iadd, 1) := by decide +kernel
theorem dX12_charged_33 : decode mX12_charged.2.1 33 = .ok (.aload_n 0, 1) := by decide +kernel
theorem dX12_charged_34 : decode mX12_charged.2.1 34 = .ok (.getfield 52, 3) := by decide +kernel
theorem dX12_charged_37 : decode mX12_charged.2.1 37 = .ok (.iload_n 1, 1) := by decide +kernel
theorem dX12_charged_38 : decode mX12_charged.2.1 38 = .ok (.iaload, 1) := by decide +kernel
theorem dX12_charged_39 : decode mX12_charged.2.1 39 = .ok (.iastore, 1) := by decide +kernel
theorem dX12_charged_40 : decode mX12_charged.2.1 40 = .ok (.aload_n 0, 1) := by decide +kernel
theorem dX12_charged_41 : decode mX12_charged.2.1 41 = .ok (.getfield 7, 3) := by decide +kernel
theorem dX12_charged_44 : decode mX12_charged.2.1 44 = .ok (.sipush 976, 3) := by decide +kernel
theorem dX12_charged_47 : decode mX12_charged.2.1 47 = .ok (.iload_n 1, 1) := by decide +kernel
theorem dX12_charged_48 : decode mX12_charged.2.1 48 = .ok (.iadd, 1) := by decide +kernel
theorem dX12_charged_49 : decode mX12_charged.2.1 49 = .ok (.iconst 0, 1) := by decide +kernel
theorem dX12_charged_50 : decode mX12_charged.2.1 50 = .ok (.iastore, 1) := by decide +kernel
theorem dX12_charged_51 : decode mX12_charged.2.1 51 = .ok (.return_, 1) := by decide +kernel
theorem dX12_isSet_0 : decode mX12_isSet.2.1 0 = .ok (.iload_n 0, 1) := by decide +kernel
theorem dX12_isSet_1 : decode mX12_isSet.2.1 1 = .ok (.ifCond .eq 8, 3) := by decide +kernel
theorem dX12_isSet_4 : decode mX12_isSet.2.1 4 = .ok (.iload_n 0, 1) := by decide +kernel
theorem dX12_isSet_5 : decode mX12_isSet.2.1 5 = .ok (.iconst 1, 1) := by decide +kernel
theorem dX12_isSet_6 : decode mX12_isSet.2.1 6 = .ok (.if_icmp .ne 14, 3) := by decide +kernel
theorem dX12_isSet_9 : decode mX12_isSet.2.1 9 = .ok (.iload_n 1, 1) := by decide +kernel
theorem dX12_isSet_10 : decode mX12_isSet.2.1 10 = .ok (.iconst 1, 1) := by decide +kernel
theorem dX12_isSet_11 : decode mX12_isSet.2.1 11 = .ok (.sipush 9999, 3) := by decide +kernel
theorem dX12_isSet_14 : decode mX12_isSet.2.1 14 = .ok (.invokestatic 162, 3) := by decide +kernel
theorem dX12_isSet_17 : decode mX12_isSet.2.1 17 = .ok (.goto 38, 3) := by decide +kernel
theorem dX12_isSet_20 : decode mX12_isSet.2.1 20 = .ok (.iload_n 0, 1) := by decide +kernel
theorem dX12_isSet_21 : decode mX12_isSet.2.1 21 = .ok (.iconst 2, 1) := by decide +kernel
theorem dX12_isSet_22 : decode mX12_isSet.2.1 22 = .ok (.if_icmp .ne 13, 3) := by decide +kernel
theorem dX12_isSet_25 : decode mX12_isSet.2.1 25 = .ok (.iload_n 1, 1) := by decide +kernel
theorem dX12_isSet_26 : decode mX12_isSet.2.1 26 = .ok (.iconst 0, 1) := by decide +kernel
theorem dX12_isSet_27 : decode mX12_isSet.2.1 27 = .ok (.bipush 100, 2) := by decide +kernel
theorem dX12_isSet_29 : decode mX12_isSet.2.1 29 = .ok (.invokestatic 162, 3) := by decide +kernel
theorem dX12_isSet_32 : decode mX12_isSet.2.1 32 = .ok (.goto 23, 3) := by decide +kernel
theorem dX12_isSet_35 : decode mX12_isSet.2.1 35 = .ok (.iload_n 0, 1) := by decide +kernel
theorem dX12_isSet_36 : decode mX12_isSet.2.1 36 = .ok (.iconst 3, 1) := by decide +kernel
theorem dX12_isSet_37 : decode mX12_isSet.2.1 37 = .ok (.if_icmp .ne 17, 3) := by decide +kernel
theorem dX12_isSet_40 : decode mX12_isSet.2.1 40 = .ok (.iload_n 1, 1) := by decide +kernel
theorem dX12_isSet_41 : decode mX12_isSet.2.1 41 = .ok (.iconst 0, 1) := by decide +kernel
theorem dX12_isSet_42 : decode mX12_isSet.2.1 42 = .ok (.bipush 14, 2) := by decide +kernel
theorem dX12_isSet_44 : decode mX12_isSet.2.1 44 = .ok (.invokestatic 162, 3) := by decide +kernel
theorem dX12_isSet_47 : decode mX12_isSet.2.1 47 = .ok (.ifCond .eq 7, 3) := by decide +kernel
theorem dX12_isSet_50 : decode mX12_isSet.2.1 50 = .ok (.iconst 1, 1) := by decide +kernel
theorem dX12_isSet_51 : decode mX12_isSet.2.1 51 = .ok (.goto 4, 3) := by decide +kernel
theorem dX12_isSet_54 : decode mX12_isSet.2.1 54 = .ok (.iconst 0, 1) := by decide +kernel
theorem dX12_isSet_55 : decode mX12_isSet.2.1 55 = .ok (.ireturn, 1) := by decide +kernel
theorem dX12_isCart_0 : decode mX12_isCart.2.1 0 = .ok (.iload_n 1, 1) := by decide +kernel
theorem dX12_isCart_1 : decode mX12_isCart.2.1 1 = .ok (.iconst 0, 1) := by decide +kernel
theorem dX12_isCart_2 : decode mX12_isCart.2.1 2 = .ok (.aload_n 0, 1) := by decide +kernel
theorem dX12_isCart_3 : decode mX12_isCart.2.1 3 = .ok (.getfield 213, 3) := by decide +kernel
theorem dX12_isCart_6 : decode mX12_isCart.2.1 6 = .ok (.iconst 1, 1) := by decide +kernel
theorem dX12_isCart_7 : decode mX12_isCart.2.1 7 = .ok (.isub, 1) := by decide +kernel
theorem dX12_isCart_8 : decode mX12_isCart.2.1 8 = .ok (.invokestatic 162, 3) := by decide +kernel
theorem dX12_isCart_11 : decode mX12_isCart.2.1 11 = .ok (.ireturn, 1) := by decide +kernel
theorem dX12_has_0 : decode mX12_has.2.1 0 = .ok (.iload_n 1, 1) := by decide +kernel
theorem dX12_has_1 : decode mX12_has.2.1 1 = .ok (.invokestatic 199, 3) := by decide +kernel
theorem dX12_has_4 : decode mX12_has.2.1 4 = .ok (.ifCond .eq 21, 3) := by decide +kernel
theorem dX12_has_7 : decode mX12_has.2.1 7 = .ok (.aload_n 0, 1) := by decide +kernel
theorem dX12_has_8 : decode mX12_has.2.1 8 = .ok (.getfield 7, 3) := by decide +kernel
theorem dX12_has_11 : decode mX12_has.2.1 11 = .ok (.sipush 192, 3) := by decide +kernel
theorem dX12_has_14 : decode mX12_has.2.1 14 = .ok (.iload_n 1, 1) := by decide +kernel
theorem dX12_has_15 : decode mX12_has.2.1 15 = .ok (.iadd, 1) := by decide +kernel
theorem dX12_has_16 : decode mX12_has.2.1 16 = .ok (.iaload, 1) := by decide +kernel
theorem dX12_has_17 : decode mX12_has.2.1 17 = .ok (.iconst 1, 1) := by decide +kernel
theorem dX12_has_18 : decode mX12_has.2.1 18 = .ok (.if_icmp .ne 7, 3) := by decide +kernel
theorem dX12_has_21 : decode mX12_has.2.1 21 = .ok (.iconst 1, 1) := by decide +kernel
theorem dX12_has_22 : decode mX12_has.2.1 22 = .ok (.goto 4, 3) := by decide +kernel
theorem dX12_has_25 : decode mX12_has.2.1 25 = .ok (.iconst 0, 1) := by decide +kernel
theorem dX12_has_26 : decode mX12_has.2.1 26 = .ok (.ireturn, 1) := by decide +kernel
theorem dX12_grows_0 : decode mX12_grows.2.1 0 = .ok (.iconst 0, 1) := by decide +kernel
theorem dX12_grows_1 : decode mX12_grows.2.1 1 = .ok (.istore_n 2, 1) := by decide +kernel
theorem dX12_grows_2 : decode mX12_grows.2.1 2 = .ok (.iconst 0, 1) := by decide +kernel
theorem dX12_grows_3 : decode mX12_grows.2.1 3 = .ok (.istore_n 3, 1) := by decide +kernel
theorem dX12_grows_4 : decode mX12_grows.2.1 4 = .ok (.iload_n 3, 1) := by decide +kernel
theorem dX12_grows_5 : decode mX12_grows.2.1 5 = .ok (.aload_n 0, 1) := by decide +kernel
theorem dX12_grows_6 : decode mX12_grows.2.1 6 = .ok (.getfield 7, 3) := by decide +kernel
theorem dX12_grows_9 : decode mX12_grows.2.1 9 = .ok (.sipush 1634, 3) := by decide +kernel
theorem dX12_grows_12 : decode mX12_grows.2.1 12 = .ok (.iaload, 1) := by decide +kernel
theorem dX12_grows_13 : decode mX12_grows.2.1 13 = .ok (.if_icmp .ge 18, 3) := by decide +kernel
theorem dX12_grows_16 : decode mX12_grows.2.1 16 = .ok (.iload_n 2, 1) := by decide +kernel
theorem dX12_grows_17 : decode mX12_grows.2.1 17 = .ok (.aload_n 0, 1) := by decide +kernel
theorem dX12_grows_18 : decode mX12_grows.2.1 18 = .ok (.getfield 67, 3) := by decide +kernel
theorem dX12_grows_21 : decode mX12_grows.2.1 21 = .ok (.iload_n 3, 1) := by decide +kernel
theorem dX12_grows_22 : decode mX12_grows.2.1 22 = .ok (.iaload, 1) := by decide +kernel
theorem dX12_grows_23 : decode mX12_grows.2.1 23 = .ok (.iadd, 1) := by decide +kernel
theorem dX12_grows_24 : decode mX12_grows.2.1 24 = .ok (.istore_n 2, 1) := by decide +kernel
theorem dX12_grows_25 : decode mX12_grows.2.1 25 = .ok (.iinc 3 1, 3) := by decide +kernel
theorem dX12_grows_28 : decode mX12_grows.2.1 28 = .ok (.goto (-24), 3) := by decide +kernel
theorem dX12_grows_31 : decode mX12_grows.2.1 31 = .ok (.iconst 0, 1) := by decide +kernel
theorem dX12_grows_32 : decode mX12_grows.2.1 32 = .ok (.istore_n 3, 1) := by decide +kernel
theorem dX12_grows_33 : decode mX12_grows.2.1 33 = .ok (.iload_n 3, 1) := by decide +kernel
theorem dX12_grows_34 : decode mX12_grows.2.1 34 = .ok (.iconst 5, 1) := by decide +kernel
theorem dX12_grows_35 : decode mX12_grows.2.1 35 = .ok (.if_icmp .ge 54, 3) := by decide +kernel
theorem dX12_grows_38 : decode mX12_grows.2.1 38 = .ok (.aload_n 0, 1) := by decide +kernel
theorem dX12_grows_39 : decode mX12_grows.2.1 39 = .ok (.getfield 7, 3) := by decide +kernel
theorem dX12_grows_42 : decode mX12_grows.2.1 42 = .ok (.sipush 640, 3) := by decide +kernel
theorem dX12_grows_45 : decode mX12_grows.2.1 45 = .ok (.iconst 5, 1) := by decide +kernel
theorem dX12_grows_46 : decode mX12_grows.2.1 46 = .ok (.iload_n 1, 1) := by decide +kernel
theorem dX12_grows_47 : decode mX12_grows.2.1 47 = .ok (.imul, 1) := by decide +kernel
theorem dX12_grows_48 : decode mX12_grows.2.1 48 = .ok (.iadd, 1) := by decide +kernel
theorem dX12_grows_49 : decode mX12_grows.2.1 49 = .ok (.iload_n 3, 1) := by decide +kernel
theorem dX12_grows_50 : decode mX12_grows.2.1 50 = .ok (.iadd, 1) := by decide +kernel
theorem dX12_grows_51 : decode mX12_grows.2.1 51 = .ok (.iload_n 3, 1) := by decide +kernel
theorem dX12_grows_52 : decode mX12_grows.2.1 52 = .ok (.aload_n 0, 1) := by decide +kernel
theorem dX12_grows_53 : decode mX12_grows.2.1 53 = .ok (.getfield 7, 3) := by decide +kernel
theorem dX12_grows_56 : decode mX12_grows.2.1 56 = .ok (.sipush 1634, 3) := by decide +kernel
theorem dX12_grows_59 : decode mX12_grows.2.1 59 = .ok (.iaload, 1) := by decide +kernel
theorem dX12_grows_60 : decode mX12_grows.2.1 60 = .ok (.if_icmp .ge 21, 3) := by decide +kernel
theorem dX12_grows_63 : decode mX12_grows.2.1 63 = .ok (.aload_n 0, 1) := by decide +kernel
theorem dX12_grows_64 : decode mX12_grows.2.1 64 = .ok (.getfield 67, 3) := by decide +kernel
theorem dX12_grows_67 : decode mX12_grows.2.1 67 = .ok (.iload_n 3, 1) := by decide +kernel
theorem dX12_grows_68 : decode mX12_grows.2.1 68 = .ok (.iaload, 1) := by decide +kernel
theorem dX12_grows_69 : decode mX12_grows.2.1 69 = .ok (.i2l, 1) := by decide +kernel
theorem dX12_grows_70 : decode mX12_grows.2.1 70 = .ok (.ldc2_w 235, 3) := by decide +kernel
theorem dX12_grows_73 : decode mX12_grows.2.1 73 = .ok (.lmul, 1) := by decide +kernel
theorem dX12_grows_74 : decode mX12_grows.2.1 74 = .ok (.iload_n 2, 1) := by decide +kernel
theorem dX12_grows_75 : decode mX12_grows.2.1 75 = .ok (.i2l, 1) := by decide +kernel
theorem dX12_grows_76 : decode mX12_grows.2.1 76 = .ok (.ldiv, 1) := by decide +kernel
theorem dX12_grows_77 : decode mX12_grows.2.1 77 = .ok (.l2i, 1) := by decide +kernel
theorem dX12_grows_78 : decode mX12_grows.2.1 78 = .ok (.goto 4, 3) := by decide +kernel
theorem dX12_grows_81 : decode mX12_grows.2.1 81 = .ok (.iconst 0, 1) := by decide +kernel
theorem dX12_grows_82 : decode mX12_grows.2.1 82 = .ok (.iastore, 1) := by decide +kernel
theorem dX12_grows_83 : decode mX12_grows.2.1 83 = .ok (.iinc 3 1, 3) := by decide +kernel
theorem dX12_grows_86 : decode mX12_grows.2.1 86 = .ok (.goto (-53), 3) := by decide +kernel
theorem dX12_grows_89 : decode mX12_grows.2.1 89 = .ok (.aload_n 0, 1) := by decide +kernel
theorem dX12_grows_90 : decode mX12_grows.2.1 90 = .ok (.getfield 7, 3) := by decide +kernel
theorem dX12_grows_93 : decode mX12_grows.2.1 93 = .ok (.sipush 192, 3) := by decide +kernel
theorem dX12_grows_96 : decode mX12_grows.2.1 96 = .ok (.iload_n 1, 1) := by decide +kernel
theorem dX12_grows_97 : decode mX12_grows.2.1 97 = .ok (.iadd, 1) := by decide +kernel
theorem dX12_grows_98 : decode mX12_grows.2.1 98 = .ok (.iconst 1, 1) := by decide +kernel
theorem dX12_grows_99 : decode mX12_grows.2.1 99 = .ok (.iastore, 1) := by decide +kernel
theorem dX12_grows_100 : decode mX12_grows.2.1 100 = .ok (.aload_n 0, 1) := by decide +kernel
theorem dX12_grows_101 : decode mX12_grows.2.1 101 = .ok (.getfield 7, 3) := by decide +kernel
theorem dX12_grows_104 : decode mX12_grows.2.1 104 = .ok (.sipush 256, 3) := by decide +kernel
theorem dX12_grows_107 : decode mX12_grows.2.1 107 = .ok (.iload_n 1, 1) := by decide +kernel
theorem dX12_grows_108 : decode mX12_grows.2.1 108 = .ok (.iadd, 1) := by decide +kernel
theorem dX12_grows_109 : decode mX12_grows.2.1 109 = .ok (.iconst 0, 1) := by decide +kernel
theorem dX12_grows_110 : decode mX12_grows.2.1 110 = .ok (.iastore, 1) := by decide +kernel
theorem dX12_grows_111 : decode mX12_grows.2.1 111 = .ok (.aload_n 0, 1) := by decide +kernel
theorem dX12_grows_112 : decode mX12_grows.2.1 112 = .ok (.getfield 7, 3) := by decide +kernel
theorem dX12_grows_115 : decode mX12_grows.2.1 115 = .ok (.sipush 320, 3) := by decide +kernel
theorem dX12_grows_118 : decode mX12_grows.2.1 118 = .ok (.iload_n 1, 1) := by decide +kernel
theorem dX12_grows_119 : decode mX12_grows.2.1 119 = .ok (.iadd, 1) := by decide +kernel
theorem dX12_grows_120 : decode mX12_grows.2.1 120 = .ok (.iconst 0, 1) := by decide +kernel
theorem dX12_grows_121 : decode mX12_grows.2.1 121 = .ok (.iastore, 1) := by decide +kernel
theorem dX12_grows_122 : decode mX12_grows.2.1 122 = .ok (.aload_n 0, 1) := by decide +kernel
theorem dX12_grows_123 : decode mX12_grows.2.1 123 = .ok (.getfield 7, 3) := by decide +kernel
theorem dX12_grows_126 : decode mX12_grows.2.1 126 = .ok (.sipush 384, 3) := by decide +kernel
theorem dX12_grows_129 : decode mX12_grows.2.1 129 = .ok (.iload_n 1, 1) := by decide +kernel
theorem dX12_grows_130 : decode mX12_grows.2.1 130 = .ok (.iadd, 1) := by decide +kernel
theorem dX12_grows_131 : decode mX12_grows.2.1 131 = .ok (.iconst 0, 1) := by decide +kernel
theorem dX12_grows_132 : decode mX12_grows.2.1 132 = .ok (.iastore, 1) := by decide +kernel
theorem dX12_grows_133 : decode mX12_grows.2.1 133 = .ok (.aload_n 0, 1) := by decide +kernel
theorem dX12_grows_134 : decode mX12_grows.2.1 134 = .ok (.getfield 7, 3) := by decide +kernel
theorem dX12_grows_137 : decode mX12_grows.2.1 137 = .ok (.sipush 448, 3) := by decide +kernel
theorem dX12_grows_140 : decode mX12_grows.2.1 140 = .ok (.iload_n 1, 1) := by decide +kernel
theorem dX12_grows_141 : decode mX12_grows.2.1 141 = .ok (.iadd, 1) := by decide +kernel
theorem dX12_grows_142 : decode mX12_grows.2.1 142 = .ok (.iconst 0, 1) := by decide +kernel
theorem dX12_grows_143 : decode mX12_grows.2.1 143 = .ok (.iastore, 1) := by decide +kernel
theorem dX12_grows_144 : decode mX12_grows.2.1 144 = .ok (.return_, 1) := by decide +kernel
theorem dX12_seen_0 : decode mX12_seen.2.1 0 = .ok (.aload_n 0, 1) := by decide +kernel
theorem dX12_seen_1 : decode mX12_seen.2.1 1 = .ok (.getfield 7, 3) := by decide +kernel
theorem dX12_seen_4 : decode mX12_seen.2.1 4 = .ok (.sipush 192, 3) := by decide +kernel
theorem dX12_seen_7 : decode mX12_seen.2.1 7 = .ok (.iload_n 1, 1) := by decide +kernel
theorem dX12_seen_8 : decode mX12_seen.2.1 8 = .ok (.iadd, 1) := by decide +kernel
theorem dX12_seen_9 : decode mX12_seen.2.1 9 = .ok (.iaload, 1) := by decide +kernel
theorem dX12_seen_10 : decode mX12_seen.2.1 10 = .ok (.ifCond .ne 4, 3) := by decide +kernel
theorem dX12_seen_13 : decode mX12_seen.2.1 13 = .ok (.return_, 1) := by decide +kernel
theorem dX12_seen_14 : decode mX12_seen.2.1 14 = .ok (.aload_n 0, 1) := by decide +kernel
theorem dX12_seen_15 : decode mX12_seen.2.1 15 = .ok (.getfield 7, 3) := by decide +kernel
theorem dX12_seen_18 : decode mX12_seen.2.1 18 = .ok (.sipush 384, 3) := by decide +kernel
theorem dX12_seen_21 : decode mX12_seen.2.1 21 = .ok (.iload_n 1, 1) := by decide +kernel
theorem dX12_seen_22 : decode mX12_seen.2.1 22 = .ok (.iadd, 1) := by decide +kernel
theorem dX12_seen_23 : decode mX12_seen.2.1 23 = .ok (.dup2, 1) := by decide +kernel
theorem dX12_seen_24 : decode mX12_seen.2.1 24 = .ok (.iaload, 1) := by decide +kernel
theorem dX12_seen_25 : decode mX12_seen.2.1 25 = .ok (.iconst 1, 1) := by decide +kernel
theorem dX12_seen_26 : decode mX12_seen.2.1 26 = .ok (.iadd, 1) := by decide +kernel
theorem dX12_seen_27 : decode mX12_seen.2.1 27 = .ok (.iastore, 1) := by decide +kernel
theorem dX12_seen_28 : decode mX12_seen.2.1 28 = .ok (.lconst 0, 1) := by decide +kernel
theorem dX12_seen_29 : decode mX12_seen.2.1 29 = .ok (.lstore_n 3, 1) := by decide +kernel
theorem dX12_seen_30 : decode mX12_seen.2.1 30 = .ok (.iconst 0, 1) := by decide +kernel
theorem dX12_seen_31 : decode mX12_seen.2.1 31 = .ok (.istore 5, 2) := by decide +kernel
theorem dX12_seen_33 : decode mX12_seen.2.1 33 = .ok (.iload 5, 2) := by decide +kernel
theorem dX12_seen_35 : decode mX12_seen.2.1 35 = .ok (.iconst 5, 1) := by decide +kernel
theorem dX12_seen_36 : decode mX12_seen.2.1 36 = .ok (.if_icmp .ge 117, 3) := by decide +kernel
theorem dX12_seen_39 : decode mX12_seen.2.1 39 = .ok (.aload_n 0, 1) := by decide +kernel
theorem dX12_seen_40 : decode mX12_seen.2.1 40 = .ok (.getfield 81, 3) := by decide +kernel
theorem dX12_seen_43 : decode mX12_seen.2.1 43 = .ok (.iload 5, 2) := by decide +kernel
theorem dX12_seen_45 : decode mX12_seen.2.1 45 = .ok (.aload_n 0, 1) := by decide +kernel
theorem dX12_seen_46 : decode mX12_seen.2.1 46 = .ok (.getfield 7, 3) := by decide +kernel
theorem dX12_seen_49 : decode mX12_seen.2.1 49 = .ok (.sipush 640, 3) := by decide +kernel
theorem dX12_seen_52 : decode mX12_seen.2.1 52 = .ok (.iconst 5, 1) := by decide +kernel
theorem dX12_seen_53 : decode mX12_seen.2.1 53 = .ok (.iload_n 1, 1) := by decide +kernel
theorem dX12_seen_54 : decode mX12_seen.2.1 54 = .ok (.imul, 1) := by decide +kernel
theorem dX12_seen_55 : decode mX12_seen.2.1 55 = .ok (.iadd, 1) := by decide +kernel
theorem dX12_seen_56 : decode mX12_seen.2.1 56 = .ok (.iload 5, 2) := by decide +kernel
theorem dX12_seen_58 : decode mX12_seen.2.1 58 = .ok (.iadd, 1) := by decide +kernel
theorem dX12_seen_59 : decode mX12_seen.2.1 59 = .ok (.iaload, 1) := by decide +kernel
theorem dX12_seen_60 : decode mX12_seen.2.1 60 = .ok (.i2l, 1) := by decide +kernel
theorem dX12_seen_61 : decode mX12_seen.2.1 61 = .ok (.lastore, 1) := by decide +kernel
theorem dX12_seen_62 : decode mX12_seen.2.1 62 = .ok (.iconst 0, 1) := by decide +kernel
theorem dX12_seen_63 : decode mX12_seen.2.1 63 = .ok (.istore 6, 2) := by decide +kernel
theorem dX12_seen_65 : decode mX12_seen.2.1 65 = .ok (.iload 6, 2) := by decide +kernel
theorem dX12_seen_67 : decode mX12_seen.2.1 67 = .ok (.iconst 4, 1) := by decide +kernel
theorem dX12_seen_68 : decode mX12_seen.2.1 68 = .ok (.if_icmp .ge 69, 3) := by decide +kernel
theorem dX12_seen_71 : decode mX12_seen.2.1 71 = .ok (.aload_n 0, 1) := by decide +kernel
theorem dX12_seen_72 : decode mX12_seen.2.1 72 = .ok (.getfield 81, 3) := by decide +kernel
theorem dX12_seen_75 : decode mX12_seen.2.1 75 = .ok (.iload 5, 2) := by decide +kernel
theorem dX12_seen_77 : decode mX12_seen.2.1 77 = .ok (.aload_n 0, 1) := by decide +kernel
theorem dX12_seen_78 : decode mX12_seen.2.1 78 = .ok (.getfield 81, 3) := by decide +kernel
theorem dX12_seen_81 : decode mX12_seen.2.1 81 = .ok (.iload 5, 2) := by decide +kernel
theorem dX12_seen_83 : decode mX12_seen.2.1 83 = .ok (.laload, 1) := by decide +kernel
theorem dX12_seen_84 : decode mX12_seen.2.1 84 = .ok (.iload_n 2, 1) := by decide +kernel
theorem dX12_seen_85 : decode mX12_seen.2.1 85 = .ok (.iload 6, 2) := by decide +kernel
theorem dX12_seen_87 : decode mX12_seen.2.1 87 = .ok (.ishr, 1) := by decide +kernel
theorem dX12_seen_88 : decode mX12_seen.2.1 88 = .ok (.iconst 1, 1) := by decide +kernel
theorem dX12_seen_89 : decode mX12_seen.2.1 89 = .ok (.iand, 1) := by decide +kernel
theorem dX12_seen_90 : decode mX12_seen.2.1 90 = .ok (.iconst 1, 1) := by decide +kernel
theorem dX12_seen_91 : decode mX12_seen.2.1 91 = .ok (.if_icmp .ne 18, 3) := by decide +kernel
theorem dX12_seen_94 : decode mX12_seen.2.1 94 = .ok (.aload_n 0, 1) := by decide +kernel
theorem dX12_seen_95 : decode mX12_seen.2.1 95 = .ok (.getfield 70, 3) := by decide +kernel
theorem dX12_seen_98 : decode mX12_seen.2.1 98 = .ok (.iconst 4, 1) := by decide +kernel
theorem dX12_seen_99 : decode mX12_seen.2.1 99 = .ok (.iload 5, 2) := by decide +kernel
theorem dX12_seen_101 : decode mX12_seen.2.1 101 = .ok (.imul, 1) := by decide +kernel
theorem dX12_seen_102 : decode mX12_seen.2.1 102 = .ok (.iload 6, 2) := by decide +kernel
theorem dX12_seen_104 : decode mX12_seen.2.1 104 = .ok (.iadd, 1) := by decide +kernel
theorem dX12_seen_105 : decode mX12_seen.2.1 105 = .ok (.iaload, 1) := by decide +kernel
theorem dX12_seen_106 : decode mX12_seen.2.1 106 = .ok (.goto 18, 3) := by decide +kernel
theorem dX12_seen_109 : decode mX12_seen.2.1 109 = .ok (.bipush 100, 2) := by decide +kernel
theorem dX12_seen_111 : decode mX12_seen.2.1 111 = .ok (.aload_n 0, 1) := by decide +kernel
theorem dX12_seen_112 : decode mX12_seen.2.1 112 = .ok (.getfield 70, 3) := by decide +kernel
theorem dX12_seen_115 : decode mX12_seen.2.1 115 = .ok (.iconst 4, 1) := by decide +kernel
theorem dX12_seen_116 : decode mX12_seen.2.1 116 = .ok (.iload 5, 2) := by decide +kernel
theorem dX12_seen_118 : decode mX12_seen.2.1 118 = .ok (.imul, 1) := by decide +kernel
theorem dX12_seen_119 : decode mX12_seen.2.1 119 = .ok (.iload 6, 2) := by decide +kernel
theorem dX12_seen_121 : decode mX12_seen.2.1 121 = .ok (.iadd, 1) := by decide +kernel
theorem dX12_seen_122 : decode mX12_seen.2.1 122 = .ok (.iaload, 1) := by decide +kernel
theorem dX12_seen_123 : decode mX12_seen.2.1 123 = .ok (.isub, 1) := by decide +kernel
theorem dX12_seen_124 : decode mX12_seen.2.1 124 = .ok (.i2l, 1) := by decide +kernel
theorem dX12_seen_125 : decode mX12_seen.2.1 125 = .ok (.lmul, 1) := by decide +kernel
theorem dX12_seen_126 : decode mX12_seen.2.1 126 = .ok (.ldc2_w 237, 3) := by decide +kernel
theorem dX12_seen_129 : decode mX12_seen.2.1 129 = .ok (.ldiv, 1) := by decide +kernel
theorem dX12_seen_130 : decode mX12_seen.2.1 130 = .ok (.lastore, 1) := by decide +kernel
theorem dX12_seen_131 : decode mX12_seen.2.1 131 = .ok (.iinc 6 1, 3) := by decide +kernel
theorem dX12_seen_134 : decode mX12_seen.2.1 134 = .ok (.goto (-69), 3) := by decide +kernel
theorem dX12_seen_137 : decode mX12_seen.2.1 137 = .ok (.lload_n 3, 1) := by decide +kernel
theorem dX12_seen_138 : decode mX12_seen.2.1 138 = .ok (.aload_n 0, 1) := by decide +kernel
theorem dX12_seen_139 : decode mX12_seen.2.1 139 = .ok (.getfield 81, 3) := by decide +kernel
theorem dX12_seen_142 : decode mX12_seen.2.1 142 = .ok (.iload 5, 2) := by decide +kernel
theorem dX12_seen_144 : decode mX12_seen.2.1 144 = .ok (.laload, 1) := by decide +kernel
theorem dX12_seen_145 : decode mX12_seen.2.1 145 = .ok (.ladd, 1) := by decide +kernel
theorem dX12_seen_146 : decode mX12_seen.2.1 146 = .ok (.lstore_n 3, 1) := by decide +kernel
theorem dX12_seen_147 : decode mX12_seen.2.1 147 = .ok (.iinc 5 1, 3) := by decide +kernel
theorem dX12_seen_150 : decode mX12_seen.2.1 150 = .ok (.goto (-117), 3) := by decide +kernel
theorem dX12_seen_153 : decode mX12_seen.2.1 153 = .ok (.iconst 0, 1) := by decide +kernel
theorem dX12_seen_154 : decode mX12_seen.2.1 154 = .ok (.istore 5, 2) := by decide +kernel
theorem dX12_seen_156 : decode mX12_seen.2.1 156 = .ok (.iload 5, 2) := by decide +kernel
theorem dX12_seen_158 : decode mX12_seen.2.1 158 = .ok (.iconst 5, 1) := by decide +kernel
theorem dX12_seen_159 : decode mX12_seen.2.1 159 = .ok (.if_icmp .ge 44, 3) := by decide +kernel
theorem dX12_seen_162 : decode mX12_seen.2.1 162 = .ok (.lload_n 3, 1) := by decide +kernel
theorem dX12_seen_163 : decode mX12_seen.2.1 163 = .ok (.lconst 0, 1) := by decide +kernel
theorem dX12_seen_164 : decode mX12_seen.2.1 164 = .ok (.lcmp, 1) := by decide +kernel
theorem dX12_seen_165 : decode mX12_seen.2.1 165 = .ok (.ifCond .le 38, 3) := by decide +kernel
theorem dX12_seen_168 : decode mX12_seen.2.1 168 = .ok (.aload_n 0, 1) := by decide +kernel
theorem dX12_seen_169 : decode mX12_seen.2.1 169 = .ok (.getfield 7, 3) := by decide +kernel
theorem dX12_seen_172 : decode mX12_seen.2.1 172 = .ok (.sipush 640, 3) := by decide +kernel
theorem dX12_seen_175 : decode mX12_seen.2.1 175 = .ok (.iconst 5, 1) := by decide +kernel
theorem dX12_seen_176 : decode mX12_seen.2.1 176 = .ok (.iload_n 1, 1) := by decide +kernel
theorem dX12_seen_177 : decode mX12_seen.2.1 177 = .ok (.imul, 1) := by decide +kernel
theorem dX12_seen_178 : decode mX12_seen.2.1 178 = .ok (.iadd, 1) := by decide +kernel
theorem dX12_seen_179 : decode mX12_seen.2.1 179 = .ok (.iload 5, 2) := by decide +kernel
theorem dX12_seen_181 : decode mX12_seen.2.1 181 = .ok (.iadd, 1) := by decide +kernel
theorem dX12_seen_182 : decode mX12_seen.2.1 182 = .ok (.aload_n 0, 1) := by decide +kernel
theorem dX12_seen_183 : decode mX12_seen.2.1 183 = .ok (.getfield 81, 3) := by decide +kernel
theorem dX12_seen_186 : decode mX12_seen.2.1 186 = .ok (.iload 5, 2) := by decide +kernel
theorem dX12_seen_188 : decode mX12_seen.2.1 188 = .ok (.laload, 1) := by decide +kernel
theorem dX12_seen_189 : decode mX12_seen.2.1 189 = .ok (.ldc2_w 235, 3) := by decide +kernel
theorem dX12_seen_192 : decode mX12_seen.2.1 192 = .ok (.lmul, 1) := by decide +kernel
theorem dX12_seen_193 : decode mX12_seen.2.1 193 = .ok (.lload_n 3, 1) := by decide +kernel
theorem dX12_seen_194 : decode mX12_seen.2.1 194 = .ok (.ldiv, 1) := by decide +kernel
theorem dX12_seen_195 : decode mX12_seen.2.1 195 = .ok (.l2i, 1) := by decide +kernel
theorem dX12_seen_196 : decode mX12_seen.2.1 196 = .ok (.iastore, 1) := by decide +kernel
theorem dX12_seen_197 : decode mX12_seen.2.1 197 = .ok (.iinc 5 1, 3) := by decide +kernel
theorem dX12_seen_200 : decode mX12_seen.2.1 200 = .ok (.goto (-44), 3) := by decide +kernel
theorem dX12_seen_203 : decode mX12_seen.2.1 203 = .ok (.return_, 1) := by decide +kernel
theorem dX12_dies_0 : decode mX12_dies.2.1 0 = .ok (.aload_n 0, 1) := by decide +kernel
theorem dX12_dies_1 : decode mX12_dies.2.1 1 = .ok (.getfield 7, 3) := by decide +kernel
theorem dX12_dies_4 : decode mX12_dies.2.1 4 = .ok (.sipush 192, 3) := by decide +kernel
theorem dX12_dies_7 : decode mX12_dies.2.1 7 = .ok (.iload_n 1, 1) := by decide +kernel
theorem dX12_dies_8 : decode mX12_dies.2.1 8 = .ok (.iadd, 1) := by decide +kernel
theorem dX12_dies_9 : decode mX12_dies.2.1 9 = .ok (.iconst 0, 1) := by decide +kernel
theorem dX12_dies_10 : decode mX12_dies.2.1 10 = .ok (.iastore, 1) := by decide +kernel
theorem dX12_dies_11 : decode mX12_dies.2.1 11 = .ok (.aload_n 0, 1) := by decide +kernel
theorem dX12_dies_12 : decode mX12_dies.2.1 12 = .ok (.getfield 7, 3) := by decide +kernel
theorem dX12_dies_15 : decode mX12_dies.2.1 15 = .ok (.sipush 576, 3) := by decide +kernel
theorem dX12_dies_18 : decode mX12_dies.2.1 18 = .ok (.iload_n 1, 1) := by decide +kernel
theorem dX12_dies_19 : decode mX12_dies.2.1 19 = .ok (.iadd, 1) := by decide +kernel
theorem dX12_dies_20 : decode mX12_dies.2.1 20 = .ok (.iload_n 2, 1) := by decide +kernel
theorem dX12_dies_21 : decode mX12_dies.2.1 21 = .ok (.iastore, 1) := by decide +kernel
theorem dX12_dies_22 : decode mX12_dies.2.1 22 = .ok (.return_, 1) := by decide +kernel
theorem dX12_weeds_0 : decode mX12_weeds.2.1 0 = .ok (.lconst 0, 1) := by decide +kernel
theorem dX12_weeds_1 : decode mX12_weeds.2.1 1 = .ok (.lstore_n 2, 1) := by decide +kernel
theorem dX12_weeds_2 : decode mX12_weeds.2.1 2 = .ok (.iconst 0, 1) := by decide +kernel
theorem dX12_weeds_3 : decode mX12_weeds.2.1 3 = .ok (.istore 4, 2) := by decide +kernel
theorem dX12_weeds_5 : decode mX12_weeds.2.1 5 = .ok (.iload 4, 2) := by decide +kernel
theorem dX12_weeds_7 : decode mX12_weeds.2.1 7 = .ok (.iconst 5, 1) := by decide +kernel
theorem dX12_weeds_8 : decode mX12_weeds.2.1 8 = .ok (.if_icmp .ge 38, 3) := by decide +kernel
theorem dX12_weeds_11 : decode mX12_weeds.2.1 11 = .ok (.aload_n 0, 1) := by decide +kernel
theorem dX12_weeds_12 : decode mX12_weeds.2.1 12 = .ok (.getfield 73, 3) := by decide +kernel
theorem dX12_weeds_15 : decode mX12_weeds.2.1 15 = .ok (.iload 4, 2) := by decide +kernel
theorem dX12_weeds_17 : decode mX12_weeds.2.1 17 = .ok (.baload, 1) := by decide +kernel
theorem dX12_weeds_18 : decode mX12_weeds.2.1 18 = .ok (.ifCond .eq 22, 3) := by decide +kernel
theorem dX12_weeds_21 : decode mX12_weeds.2.1 21 = .ok (.lload_n 2, 1) := by decide +kernel
theorem dX12_weeds_22 : decode mX12_weeds.2.1 22 = .ok (.aload_n 0, 1) := by decide +kernel
theorem dX12_weeds_23 : decode mX12_weeds.2.1 23 = .ok (.getfield 7, 3) := by decide +kernel
theorem dX12_weeds_26 : decode mX12_weeds.2.1 26 = .ok (.sipush 640, 3) := by decide +kernel
theorem dX12_weeds_29 : decode mX12_weeds.2.1 29 = .ok (.iconst 5, 1) := by decide +kernel
theorem dX12_weeds_30 : decode mX12_weeds.2.1 30 = .ok (.iload_n 1, 1) := by decide +kernel
theorem dX12_weeds_31 : decode mX12_weeds.2.1 31 = .ok (.imul, 1) := by decide +kernel
theorem dX12_weeds_32 : decode mX12_weeds.2.1 32 = .ok (.iadd, 1) := by decide +kernel
theorem dX12_weeds_33 : decode mX12_weeds.2.1 33 = .ok (.iload 4, 2) := by decide +kernel
theorem dX12_weeds_35 : decode mX12_weeds.2.1 35 = .ok (.iadd, 1) := by decide +kernel
theorem dX12_weeds_36 : decode mX12_weeds.2.1 36 = .ok (.iaload, 1) := by decide +kernel
theorem dX12_weeds_37 : decode mX12_weeds.2.1 37 = .ok (.i2l, 1) := by decide +kernel
theorem dX12_weeds_38 : decode mX12_weeds.2.1 38 = .ok (.ladd, 1) := by decide +kernel
theorem dX12_weeds_39 : decode mX12_weeds.2.1 39 = .ok (.lstore_n 2, 1) := by decide +kernel
theorem dX12_weeds_40 : decode mX12_weeds.2.1 40 = .ok (.iinc 4 1, 3) := by decide +kernel
theorem dX12_weeds_43 : decode mX12_weeds.2.1 43 = .ok (.goto (-38), 3) := by decide +kernel
theorem dX12_weeds_46 : decode mX12_weeds.2.1 46 = .ok (.lload_n 2, 1) := by decide +kernel
theorem dX12_weeds_47 : decode mX12_weeds.2.1 47 = .ok (.ldc2_w 239, 3) := by decide +kernel
theorem dX12_weeds_50 : decode mX12_weeds.2.1 50 = .ok (.ldiv, 1) := by decide +kernel
theorem dX12_weeds_51 : decode mX12_weeds.2.1 51 = .ok (.l2i, 1) := by decide +kernel
theorem dX12_weeds_52 : decode mX12_weeds.2.1 52 = .ok (.ireturn, 1) := by decide +kernel
theorem dX12_heavy_0 : decode mX12_heavy.2.1 0 = .ok (.aload_n 0, 1) := by decide +kernel
theorem dX12_heavy_1 : decode mX12_heavy.2.1 1 = .ok (.getfield 43, 3) := by decide +kernel
theorem dX12_heavy_4 : decode mX12_heavy.2.1 4 = .ok (.iload_n 1, 1) := by decide +kernel
theorem dX12_heavy_5 : decode mX12_heavy.2.1 5 = .ok (.iaload, 1) := by decide +kernel
theorem dX12_heavy_6 : decode mX12_heavy.2.1 6 = .ok (.iconst 1, 1) := by decide +kernel
theorem dX12_heavy_7 : decode mX12_heavy.2.1 7 = .ok (.aload_n 0, 1) := by decide +kernel
theorem dX12_heavy_8 : decode mX12_heavy.2.1 8 = .ok (.getfield 7, 3) := by decide +kernel
theorem dX12_heavy_11 : decode mX12_heavy.2.1 11 = .ok (.bipush 64, 2) := by decide +kernel
theorem dX12_heavy_13 : decode mX12_heavy.2.1 13 = .ok (.iload_n 2, 1) := by decide +kernel
theorem dX12_heavy_14 : decode mX12_heavy.2.1 14 = .ok (.iadd, 1) := by decide +kernel
theorem dX12_heavy_15 : decode mX12_heavy.2.1 15 = .ok (.iaload, 1) := by decide +kernel
theorem dX12_heavy_16 : decode mX12_heavy.2.1 16 = .ok (.bipush 100, 2) := by decide +kernel
theorem dX12_heavy_18 : decode mX12_heavy.2.1 18 = .ok (.idiv, 1) := by decide +kernel
theorem dX12_heavy_19 : decode mX12_heavy.2.1 19 = .ok (.iadd, 1) := by decide +kernel
theorem dX12_heavy_20 : decode mX12_heavy.2.1 20 = .ok (.imul, 1) := by decide +kernel
theorem dX12_heavy_21 : decode mX12_heavy.2.1 21 = .ok (.ireturn, 1) := by decide +kernel
theorem dX12_mayEnter_0 : decode mX12_mayEnter.2.1 0 = .ok (.aload_n 0, 1) := by decide +kernel
theorem dX12_mayEnter_1 : decode mX12_mayEnter.2.1 1 = .ok (.getfield 7, 3) := by decide +kernel
theorem dX12_mayEnter_4 : decode mX12_mayEnter.2.1 4 = .ok (.sipush 992, 3) := by decide +kernel
theorem dX12_mayEnter_7 : decode mX12_mayEnter.2.1 7 = .ok (.bipush 64, 2) := by decide +kernel
theorem dX12_mayEnter_9 : decode mX12_mayEnter.2.1 9 = .ok (.iload_n 1, 1) := by decide +kernel
theorem dX12_mayEnter_10 : decode mX12_mayEnter.2.1 10 = .ok (.imul, 1) := by decide +kernel
theorem dX12_mayEnter_11 : decode mX12_mayEnter.2.1 11 = .ok (.iadd, 1) := by decide +kernel
theorem dX12_mayEnter_12 : decode mX12_mayEnter.2.1 12 = .ok (.iload_n 2, 1) := by decide +kernel
theorem dX12_mayEnter_13 : decode mX12_mayEnter.2.1 13 = .ok (.iadd, 1) := by decide +kernel
theorem dX12_mayEnter_14 : decode mX12_mayEnter.2.1 14 = .ok (.iaload, 1) := by decide +kernel
theorem dX12_mayEnter_15 : decode mX12_mayEnter.2.1 15 = .ok (.ifCond .ne 35, 3) := by decide +kernel
theorem dX12_mayEnter_18 : decode mX12_mayEnter.2.1 18 = .ok (.aload_n 0, 1) := by decide +kernel
theorem dX12_mayEnter_19 : decode mX12_mayEnter.2.1 19 = .ok (.getfield 7, 3) := by decide +kernel
theorem dX12_mayEnter_22 : decode mX12_mayEnter.2.1 22 = .ok (.sipush 128, 3) := by decide +kernel
theorem dX12_mayEnter_25 : decode mX12_mayEnter.2.1 25 = .ok (.iload_n 2, 1) := by decide +kernel
theorem dX12_mayEnter_26 : decode mX12_mayEnter.2.1 26 = .ok (.iadd, 1) := by decide +kernel
theorem dX12_mayEnter_27 : decode mX12_mayEnter.2.1 27 = .ok (.iaload, 1) := by decide +kernel
theorem dX12_mayEnter_28 : decode mX12_mayEnter.2.1 28 = .ok (.aload_n 0, 1) := by decide +kernel
theorem dX12_mayEnter_29 : decode mX12_mayEnter.2.1 29 = .ok (.iload_n 1, 1) := by decide +kernel
theorem dX12_mayEnter_30 : decode mX12_mayEnter.2.1 30 = .ok (.iload_n 2, 1) := by decide +kernel
theorem dX12_mayEnter_31 : decode mX12_mayEnter.2.1 31 = .ok (.invokevirtual 241, 3) := by decide +kernel
theorem dX12_mayEnter_34 : decode mX12_mayEnter.2.1 34 = .ok (.iadd, 1) := by decide +kernel
theorem dX12_mayEnter_35 : decode mX12_mayEnter.2.1 35 = .ok (.aload_n 0, 1) := by decide +kernel
theorem dX12_mayEnter_36 : decode mX12_mayEnter.2.1 36 = .ok (.getfield 7, 3) := by decide +kernel
theorem dX12_mayEnter_39 : decode mX12_mayEnter.2.1 39 = .ok (.sipush 1626, 3) := by decide +kernel
theorem dX12_mayEnter_42 : decode mX12_mayEnter.2.1 42 = .ok (.iaload, 1) := by decide +kernel
theorem dX12_mayEnter_43 : decode mX12_mayEnter.2.1 43 = .ok (.if_icmp .gt 7, 3) := by decide +kernel
theorem dX12_mayEnter_46 : decode mX12_mayEnter.2.1 46 = .ok (.iconst 1, 1) := by decide +kernel
theorem dX12_mayEnter_47 : decode mX12_mayEnter.2.1 47 = .ok (.goto 4, 3) := by decide +kernel
theorem dX12_mayEnter_50 : decode mX12_mayEnter.2.1 50 = .ok (.iconst 0, 1) := by decide +kernel
theorem dX12_mayEnter_51 : decode mX12_mayEnter.2.1 51 = .ok (.ireturn, 1) := by decide +kernel
theorem dX12_nextOf_0 : decode mX12_nextOf.2.1 0 = .ok (.aload_n 0, 1) := by decide +kernel
theorem dX12_nextOf_1 : decode mX12_nextOf.2.1 1 = .ok (.getfield 85, 3) := by decide +kernel
theorem dX12_nextOf_4 : decode mX12_nextOf.2.1 4 = .ok (.iload_n 2, 1) := by decide +kernel
theorem dX12_nextOf_5 : decode mX12_nextOf.2.1 5 = .ok (.laload, 1) := by decide +kernel
theorem dX12_nextOf_6 : decode mX12_nextOf.2.1 6 = .ok (.lconst 0, 1) := by decide +kernel
theorem dX12_nextOf_7 : decode mX12_nextOf.2.1 7 = .ok (.lcmp, 1) := by decide +kernel
theorem dX12_nextOf_8 : decode mX12_nextOf.2.1 8 = .ok (.ifCond .ne 5, 3) := by decide +kernel
theorem dX12_nextOf_11 : decode mX12_nextOf.2.1 11 = .ok (.iload_n 2, 1) := by decide +kernel
theorem dX12_nextOf_12 : decode mX12_nextOf.2.1 12 = .ok (.ireturn, 1) := by decide +kernel
theorem dX12_nextOf_13 : decode mX12_nextOf.2.1 13 = .ok (.iconst 0, 1) := by decide +kernel
theorem dX12_nextOf_14 : decode mX12_nextOf.2.1 14 = .ok (.istore_n 3, 1) := by decide +kernel
theorem dX12_nextOf_15 : decode mX12_nextOf.2.1 15 = .ok (.iload_n 3, 1) := by decide +kernel
theorem dX12_nextOf_16 : decode mX12_nextOf.2.1 16 = .ok (.iconst 4, 1) := by decide +kernel
theorem dX12_nextOf_17 : decode mX12_nextOf.2.1 17 = .ok (.if_icmp .ge 67, 3) := by decide +kernel
theorem dX12_nextOf_20 : decode mX12_nextOf.2.1 20 = .ok (.iload_n 2, 1) := by decide +kernel
theorem dX12_nextOf_21 : decode mX12_nextOf.2.1 21 = .ok (.iload_n 3, 1) := by decide +kernel
theorem dX12_nextOf_22 : decode mX12_nextOf.2.1 22 = .ok (.invokestatic 257, 3) := by decide +kernel
theorem dX12_nextOf_25 : decode mX12_nextOf.2.1 25 = .ok (.istore 4, 2) := by decide +kernel
theorem dX12_nextOf_27 : decode mX12_nextOf.2.1 27 = .ok (.iload 4, 2) := by decide +kernel
theorem dX12_nextOf_29 : decode mX12_nextOf.2.1 29 = .ok (.iconst (-1), 1) := by decide +kernel
theorem dX12_nextOf_30 : decode mX12_nextOf.2.1 30 = .ok (.if_icmp .eq 48, 3) := by decide +kernel
theorem dX12_nextOf_33 : decode mX12_nextOf.2.1 33 = .ok (.aload_n 0, 1) := by decide +kernel
theorem dX12_nextOf_34 : decode mX12_nextOf.2.1 34 = .ok (.iload_n 1, 1) := by decide +kernel
theorem dX12_nextOf_35 : decode mX12_nextOf.2.1 35 = .ok (.iload 4, 2) := by decide +kernel
theorem dX12_nextOf_37 : decode mX12_nextOf.2.1 37 = .ok (.invokevirtual 254, 3) := by decide +kernel
theorem dX12_nextOf_40 : decode mX12_nextOf.2.1 40 = .ok (.ifCond .eq 38, 3) := by decide +kernel
theorem dX12_nextOf_43 : decode mX12_nextOf.2.1 43 = .ok (.aload_n 0, 1) := by decide +kernel
theorem dX12_nextOf_44 : decode mX12_nextOf.2.1 44 = .ok (.getfield 85, 3) := by decide +kernel
theorem dX12_nextOf_47 : decode mX12_nextOf.2.1 47 = .ok (.iload 4, 2) := by decide +kernel
theorem dX12_nextOf_49 : decode mX12_nextOf.2.1 49 = .ok (.laload, 1) := by decide +kernel
theorem dX12_nextOf_50 : decode mX12_nextOf.2.1 50 = .ok (.ldc2_w 260, 3) := by decide +kernel
theorem dX12_nextOf_53 : decode mX12_nextOf.2.1 53 = .ok (.aload_n 0, 1) := by decide +kernel
theorem dX12_nextOf_54 : decode mX12_nextOf.2.1 54 = .ok (.iload_n 1, 1) := by decide +kernel
theorem dX12_nextOf_55 : decode mX12_nextOf.2.1 55 = .ok (.iload 4, 2) := by decide +kernel
theorem dX12_nextOf_57 : decode mX12_nextOf.2.1 57 = .ok (.invokevirtual 241, 3) := by decide +kernel
theorem dX12_nextOf_60 : decode mX12_nextOf.2.1 60 = .ok (.i2l, 1) := by decide +kernel
theorem dX12_nextOf_61 : decode mX12_nextOf.2.1 61 = .ok (.lmul, 1) := by decide +kernel
theorem dX12_nextOf_62 : decode mX12_nextOf.2.1 62 = .ok (.ladd, 1) := by decide +kernel
theorem dX12_nextOf_63 : decode mX12_nextOf.2.1 63 = .ok (.lconst 1, 1) := by decide +kernel
theorem dX12_nextOf_64 : decode mX12_nextOf.2.1 64 = .ok (.ladd, 1) := by decide +kernel
theorem dX12_nextOf_65 : decode mX12_nextOf.2.1 65 = .ok (.aload_n 0, 1) := by decide +kernel
theorem dX12_nextOf_66 : decode mX12_nextOf.2.1 66 = .ok (.getfield 85, 3) := by decide +kernel
theorem dX12_nextOf_69 : decode mX12_nextOf.2.1 69 = .ok (.iload_n 2, 1) := by decide +kernel
theorem dX12_nextOf_70 : decode mX12_nextOf.2.1 70 = .ok (.laload, 1) := by decide +kernel
theorem dX12_nextOf_71 : decode mX12_nextOf.2.1 71 = .ok (.lcmp, 1) := by decide +kernel
theorem dX12_nextOf_72 : decode mX12_nextOf.2.1 72 = .ok (.ifCond .ne 6, 3) := by decide +kernel
theorem dX12_nextOf_75 : decode mX12_nextOf.2.1 75 = .ok (.iload 4, 2) := by decide +kernel
theorem dX12_nextOf_77 : decode mX12_nextOf.2.1 77 = .ok (.ireturn, 1) := by decide +kernel
theorem dX12_nextOf_78 : decode mX12_nextOf.2.1 78 = .ok (.iinc 3 1, 3) := by decide +kernel
theorem dX12_nextOf_81 : decode mX12_nextOf.2.1 81 = .ok (.goto (-66), 3) := by decide +kernel
theorem dX12_nextOf_84 : decode mX12_nextOf.2.1 84 = .ok (.iconst (-1), 1) := by decide +kernel
theorem dX12_nextOf_85 : decode mX12_nextOf.2.1 85 = .ok (.ireturn, 1) := by decide +kernel
theorem dX12_rains_0 : decode mX12_rains.2.1 0 = .ok (.iconst 0, 1) := by decide +kernel
theorem dX12_rains_1 : decode mX12_rains.2.1 1 = .ok (.istore_n 1, 1) := by decide +kernel
theorem dX12_rains_2 : decode mX12_rains.2.1 2 = .ok (.iload_n 1, 1) := by decide +kernel
theorem dX12_rains_3 : decode mX12_rains.2.1 3 = .ok (.aload_n 0, 1) := by decide +kernel
theorem dX12_rains_4 : decode mX12_rains.2.1 4 = .ok (.getfield 7, 3) := by decide +kernel
theorem dX12_rains_7 : decode mX12_rains.2.1 7 = .ok (.sipush 1630, 3) := by decide +kernel
theorem dX12_rains_10 : decode mX12_rains.2.1 10 = .ok (.iaload, 1) := by decide +kernel
theorem dX12_rains_11 : decode mX12_rains.2.1 11 = .ok (.if_icmp .ge 98, 3) := by decide +kernel
theorem dX12_rains_14 : decode mX12_rains.2.1 14 = .ok (.aload_n 0, 1) := by decide +kernel
theorem dX12_rains_15 : decode mX12_rains.2.1 15 = .ok (.iconst 0, 1) := by decide +kernel
theorem dX12_rains_16 : decode mX12_rains.2.1 16 = .ok (.iload_n 1, 1) := by decide +kernel
theorem dX12_rains_17 : decode mX12_rains.2.1 17 = .ok (.invokevirtual 188, 3) := by decide +kernel
theorem dX12_rains_20 : decode mX12_rains.2.1 20 = .ok (.ifCond .ne 83, 3) := by decide +kernel
theorem dX12_rains_23 : decode mX12_rains.2.1 23 = .ok (.aload_n 0, 1) := by decide +kernel
theorem dX12_rains_24 : decode mX12_rains.2.1 24 = .ok (.getfield 7, 3) := by decide +kernel
theorem dX12_rains_27 : decode mX12_rains.2.1 27 = .ok (.sipush 1624, 3) := by decide +kernel
theorem dX12_rains_30 : decode mX12_rains.2.1 30 = .ok (.iaload, 1) := by decide +kernel
theorem dX12_rains_31 : decode mX12_rains.2.1 31 = .ok (.aload_n 0, 1) := by decide +kernel
theorem dX12_rains_32 : decode mX12_rains.2.1 32 = .ok (.getfield 31, 3) := by decide +kernel
theorem dX12_rains_35 : decode mX12_rains.2.1 35 = .ok (.iload_n 1, 1) := by decide +kernel
theorem dX12_rains_36 : decode mX12_rains.2.1 36 = .ok (.iaload, 1) := by decide +kernel
theorem dX12_rains_37 : decode mX12_rains.2.1 37 = .ok (.aload_n 0, 1) := by decide +kernel
theorem dX12_rains_38 : decode mX12_rains.2.1 38 = .ok (.getfield 34, 3) := by decide +kernel
theorem dX12_rains_41 : decode mX12_rains.2.1 41 = .ok (.iload_n 1, 1) := by decide +kernel
theorem dX12_rains_42 : decode mX12_rains.2.1 42 = .ok (.iaload, 1) := by decide +kernel
theorem dX12_rains_43 : decode mX12_rains.2.1 43 = .ok (.invokestatic 162, 3) := by decide +kernel
theorem dX12_rains_46 : decode mX12_rains.2.1 46 = .ok (.ifCond .ne 6, 3) := by decide +kernel
theorem dX12_rains_49 : decode mX12_rains.2.1 49 = .ok (.goto 54, 3) := by decide +kernel
theorem dX12_rains_52 : decode mX12_rains.2.1 52 = .ok (.iconst 0, 1) := by decide +kernel
theorem dX12_rains_53 : decode mX12_rains.2.1 53 = .ok (.istore_n 2, 1) := by decide +kernel
theorem dX12_rains_54 : decode mX12_rains.2.1 54 = .ok (.iload_n 2, 1) := by decide +kernel
theorem dX12_rains_55 : decode mX12_rains.2.1 55 = .ok (.bipush 64, 2) := by decide +kernel
theorem dX12_rains_57 : decode mX12_rains.2.1 57 = .ok (.if_icmp .ge 27, 3) := by decide +kernel
theorem dX12_rains_60 : decode mX12_rains.2.1 60 = .ok (.aload_n 0, 1) := by decide +kernel
theorem dX12_rains_61 : decode mX12_rains.2.1 61 = .ok (.getfield 7, 3) := by decide +kernel
theorem dX12_rains_64 : decode mX12_rains.2.1 64 = .ok (.bipush 64, 2) := by decide +kernel
theorem dX12_rains_66 : decode mX12_rains.2.1 66 = .ok (.iload_n 2, 1) := by decide +kernel
theorem dX12_rains_67 : decode mX12_rains.2.1 67 = .ok (.iadd, 1) := by decide +kernel
theorem dX12_rains_68 : decode mX12_rains.2.1 68 = .ok (.dup2, 1) := by decide +kernel
theorem dX12_rains_69 : decode mX12_rains.2.1 69 = .ok (.iaload, 1) := by decide +kernel
theorem dX12_rains_70 : decode mX12_rains.2.1 70 = .ok (.aload_n 0, 1) := by decide +kernel
theorem dX12_rains_71 : decode mX12_rains.2.1 71 = .ok (.getfield 37, 3) := by decide +kernel
theorem dX12_rains_74 : decode mX12_rains.2.1 74 = .ok (.iload_n 1, 1) := by decide +kernel
theorem dX12_rains_75 : decode mX12_rains.2.1 75 = .ok (.iaload, 1) := by decide +kernel
theorem dX12_rains_76 : decode mX12_rains.2.1 76 = .ok (.iadd, 1) := by decide +kernel
theorem dX12_rains_77 : decode mX12_rains.2.1 77 = .ok (.iastore, 1) := by decide +kernel
theorem dX12_rains_78 : decode mX12_rains.2.1 78 = .ok (.iinc 2 1, 3) := by decide +kernel
theorem dX12_rains_81 : decode mX12_rains.2.1 81 = .ok (.goto (-27), 3) := by decide +kernel
theorem dX12_rains_84 : decode mX12_rains.2.1 84 = .ok (.aload_n 0, 1) := by decide +kernel
theorem dX12_rains_85 : decode mX12_rains.2.1 85 = .ok (.dup, 1) := by decide +kernel
theorem dX12_rains_86 : decode mX12_rains.2.1 86 = .ok (.getfield 155, 3) := by decide +kernel
theorem dX12_rains_89 : decode mX12_rains.2.1 89 = .ok (.bipush 64, 2) := by decide +kernel
theorem dX12_rains_91 : decode mX12_rains.2.1 91 = .ok (.aload_n 0, 1) := by decide +kernel
theorem dX12_rains_92 : decode mX12_rains.2.1 92 = .ok (.getfield 37, 3) := by decide +kernel
theorem dX12_rains_95 : decode mX12_rains.2.1 95 = .ok (.iload_n 1, 1) := by decide +kernel
theorem dX12_rains_96 : decode mX12_rains.2.1 96 = .ok (.iaload, 1) := by decide +kernel
theorem dX12_rains_97 : decode mX12_rains.2.1 97 = .ok (.imul, 1) := by decide +kernel
theorem dX12_rains_98 : decode mX12_rains.2.1 98 = .ok (.i2l, 1) := by decide +kernel
theorem dX12_rains_99 : decode mX12_rains.2.1 99 = .ok (.ladd, 1) := by decide +kernel
theorem dX12_rains_100 : decode mX12_rains.2.1 100 = .ok (.putfield 155, 3) := by decide +kernel
theorem dX12_rains_103 : decode mX12_rains.2.1 103 = .ok (.iinc 1 1, 3) := by decide +kernel
theorem dX12_rains_106 : decode mX12_rains.2.1 106 = .ok (.goto (-104), 3) := by decide +kernel
theorem dX12_rains_109 : decode mX12_rains.2.1 109 = .ok (.return_, 1) := by decide +kernel
theorem dX12_flows_0 : decode mX12_flows.2.1 0 = .ok (.iconst 0, 1) := by decide +kernel
theorem dX12_flows_1 : decode mX12_flows.2.1 1 = .ok (.istore_n 1, 1) := by decide +kernel
theorem dX12_flows_2 : decode mX12_flows.2.1 2 = .ok (.iload_n 1, 1) := by decide +kernel
theorem dX12_flows_3 : decode mX12_flows.2.1 3 = .ok (.bipush 64, 2) := by decide +kernel
theorem dX12_flows_5 : decode mX12_flows.2.1 5 = .ok (.if_icmp .ge 16, 3) := by decide +kernel
theorem dX12_flows_8 : decode mX12_flows.2.1 8 = .ok (.aload_n 0, 1) := by decide +kernel
theorem dX12_flows_9 : decode mX12_flows.2.1 9 = .ok (.getfield 91, 3) := by decide +kernel
theorem dX12_flows_12 : decode mX12_flows.2.1 12 = .ok (.iload_n 1, 1) := by decide +kernel
theorem dX12_flows_13 : decode mX12_flows.2.1 13 = .ok (.iconst 0, 1) := by decide +kernel
theorem dX12_flows_14 : decode mX12_flows.2.1 14 = .ok (.iastore, 1) := by decide +kernel
theorem dX12_flows_15 : decode mX12_flows.2.1 15 = .ok (.iinc 1 1, 3) := by decide +kernel
theorem dX12_flows_18 : decode mX12_flows.2.1 18 = .ok (.goto (-16), 3) := by decide +kernel
theorem dX12_flows_21 : decode mX12_flows.2.1 21 = .ok (.iconst 0, 1) := by decide +kernel
theorem dX12_flows_22 : decode mX12_flows.2.1 22 = .ok (.istore_n 1, 1) := by decide +kernel
theorem dX12_flows_23 : decode mX12_flows.2.1 23 = .ok (.iload_n 1, 1) := by decide +kernel
theorem dX12_flows_24 : decode mX12_flows.2.1 24 = .ok (.bipush 64, 2) := by decide +kernel
theorem dX12_flows_26 : decode mX12_flows.2.1 26 = .ok (.if_icmp .ge 141, 3) := by decide +kernel
theorem dX12_flows_29 : decode mX12_flows.2.1 29 = .ok (.aload_n 0, 1) := by decide +kernel
theorem dX12_flows_30 : decode mX12_flows.2.1 30 = .ok (.getfield 7, 3) := by decide +kernel
theorem dX12_flows_33 : decode mX12_flows.2.1 33 = .ok (.bipush 64, 2) := by decide +kernel
theorem dX12_flows_35 : decode mX12_flows.2.1 35 = .ok (.iload_n 1, 1) := by decide +kernel
theorem dX12_flows_36 : decode mX12_flows.2.1 36 = .ok (.iadd, 1) := by decide +kernel
theorem dX12_flows_37 : decode mX12_flows.2.1 37 = .ok (.iaload, 1) := by decide +kernel
theorem dX12_flows_38 : decode mX12_flows.2.1 38 = .ok (.bipush 100, 2) := by decide +kernel
theorem dX12_flows_40 : decode mX12_flows.2.1 40 = .ok (.if_icmp .gt 6, 3) := by decide +kernel
theorem dX12_flows_43 : decode mX12_flows.2.1 43 = .ok (.goto 118, 3) := by decide +kernel
theorem dX12_flows_46 : decode mX12_flows.2.1 46 = .ok (.iconst (-1), 1) := by decide +kernel
theorem dX12_flows_47 : decode mX12_flows.2.1 47 = .ok (.istore_n 2, 1) := by decide +kernel
theorem dX12_flows_48 : decode mX12_flows.2.1 48 = .ok (.iconst 0, 1) := by decide +kernel
theorem dX12_flows_49 : decode mX12_flows.2.1 49 = .ok (.istore_n 3, 1) := by decide +kernel
theorem dX12_flows_50 : decode mX12_flows.2.1 50 = .ok (.iload_n 3, 1) := by decide +kernel
theorem dX12_flows_51 : decode mX12_flows.2.1 51 = .ok (.iconst 4, 1) := by decide +kernel
theorem dX12_flows_52 : decode mX12_flows.2.1 52 = .ok (.if_icmp .ge 52, 3) := by decide +kernel
theorem dX12_flows_55 : decode mX12_flows.2.1 55 = .ok (.iload_n 1, 1) := by decide +kernel
theorem dX12_flows_56 : decode mX12_flows.2.1 56 = .ok (.iload_n 3, 1) := by decide +kernel
theorem dX12_flows_57 : decode mX12_flows.2.1 57 = .ok (.invokestatic 257, 3) := by decide +kernel
theorem dX12_flows_60 : decode mX12_flows.2.1 60 = .ok (.iconst (-1), 1) := by decide +kernel
theorem dX12_flows_61 : decode mX12_flows.2.1 61 = .ok (.if_icmp .eq 37, 3) := by decide +kernel
theorem dX12_flows_64 : decode mX12_flows.2.1 64 = .ok (.iload_n 2, 1) := by decide +kernel
theorem dX12_flows_65 : decode mX12_flows.2.1 65 = .ok (.iconst (-1), 1) := by decide +kernel
theorem dX12_flows_66 : decode mX12_flows.2.1 66 = .ok (.if_icmp .eq 26, 3) := by decide +kernel
theorem dX12_flows_69 : decode mX12_flows.2.1 69 = .ok (.aload_n 0, 1) := by decide +kernel
theorem dX12_flows_70 : decode mX12_flows.2.1 70 = .ok (.getfield 7, 3) := by decide +kernel
theorem dX12_flows_73 : decode mX12_flows.2.1 73 = .ok (.iconst 0, 1) := by decide +kernel
theorem dX12_flows_74 : decode mX12_flows.2.1 74 = .ok (.iload_n 1, 1) := by decide +kernel
theorem dX12_flows_75 : decode mX12_flows.2.1 75 = .ok (.iload_n 3, 1) := by decide +kernel
theorem dX12_flows_76 : decode mX12_flows.2.1 76 = .ok (.invokestatic 257, 3) := by decide +kernel
theorem dX12_flows_79 : decode mX12_flows.2.1 79 = .ok (.iadd, 1) := by decide +kernel
theorem dX12_flows_80 : decode mX12_flows.2.1 80 = .ok (.iaload, 1) := by decide +kernel
theorem dX12_flows_81 : decode mX12_flows.2.1 81 = .ok (.aload_n 0, 1) := by decide +kernel
theorem dX12_flows_82 : decode mX12_flows.2.1 82 = .ok (.getfield 7, 3) := by decide +kernel
theorem dX12_flows_85 : decode mX12_flows.2.1 85 = .ok (.iconst 0, 1) := by decide +kernel
theorem dX12_flows_86 : decode mX12_flows.2.1 86 = .ok (.iload_n 2, 1) := by decide +kernel
theorem dX12_flows_87 : decode mX12_flows.2.1 87 = .ok (.iadd, 1) := by decide +kernel
theorem dX12_flows_88 : decode mX12_flows.2.1 88 = .ok (.iaload, 1) := by decide +kernel
theorem dX12_flows_89 : decode mX12_flows.2.1 89 = .ok (.if_icmp .ge 9, 3) := by decide +kernel
theorem dX12_flows_92 : decode mX12_flows.2.1 92 = .ok (.iload_n 1, 1) := by decide +kernel
theorem dX12_flows_93 : decode mX12_flows.2.1 93 = .ok (.iload_n 3, 1) := by decide +kernel
theorem dX12_flows_94 : decode mX12_flows.2.1 94 = .ok (.invokestatic 257, 3) := by decide +kernel
theorem dX12_flows_97 : decode mX12_flows.2.1 97 = .ok (.istore_n 2, 1) := by decide +kernel
theorem dX12_flows_98 : decode mX12_flows.2.1 98 = .ok (.iinc 3 1, 3) := by decide +kernel
theorem dX12_flows_101 : decode mX12_flows.2.1 101 = .ok (.goto (-51), 3) := by decide +kernel
theorem dX12_flows_104 : decode mX12_flows.2.1 104 = .ok (.aload_n 0, 1) := by decide +kernel
theorem dX12_flows_105 : decode mX12_flows.2.1 105 = .ok (.getfield 7, 3) := by decide +kernel
theorem dX12_flows_108 : decode mX12_flows.2.1 108 = .ok (.iconst 0, 1) := by decide +kernel
theorem dX12_flows_109 : decode mX12_flows.2.1 109 = .ok (.iload_n 2, 1) := by decide +kernel
theorem dX12_flows_110 : decode mX12_flows.2.1 110 = .ok (.iadd, 1) := by decide +kernel
theorem dX12_flows_111 : decode mX12_flows.2.1 111 = .ok (.iaload, 1) := by decide +kernel
theorem dX12_flows_112 : decode mX12_flows.2.1 112 = .ok (.aload_n 0, 1) := by decide +kernel
theorem dX12_flows_113 : decode mX12_flows.2.1 113 = .ok (.getfield 7, 3) := by decide +kernel
theorem dX12_flows_116 : decode mX12_flows.2.1 116 = .ok (.iconst 0, 1) := by decide +kernel
theorem dX12_flows_117 : decode mX12_flows.2.1 117 = .ok (.iload_n 1, 1) := by decide +kernel
theorem dX12_flows_118 : decode mX12_flows.2.1 118 = .ok (.iadd, 1) := by decide +kernel
theorem dX12_flows_119 : decode mX12_flows.2.1 119 = .ok (.iaload, 1) := by decide +kernel
theorem dX12_flows_120 : decode mX12_flows.2.1 120 = .ok (.if_icmp .lt 6, 3) := by decide +kernel
theorem dX12_flows_123 : decode mX12_flows.2.1 123 = .ok (.goto 38, 3) := by decide +kernel
theorem dX12_flows_126 : decode mX12_flows.2.1 126 = .ok (.aload_n 0, 1) := by decide +kernel
theorem dX12_flows_127 : decode mX12_flows.2.1 127 = .ok (.getfield 7, 3) := by decide +kernel
theorem dX12_flows_130 : decode mX12_flows.2.1 130 = .ok (.bipush 64, 2) := by decide +kernel
theorem dX12_flows_132 : decode mX12_flows.2.1 132 = .ok (.iload_n 1, 1) := by decide +kernel
theorem dX12_flows_133 : decode mX12_flows.2.1 133 = .ok (.iadd, 1) := by decide +kernel
theorem dX12_flows_134 : decode mX12_flows.2.1 134 = .ok (.iaload, 1) := by decide +kernel
theorem dX12_flows_135 : decode mX12_flows.2.1 135 = .ok (.bipush 100, 2) := by decide +kernel
theorem dX12_flows_137 : decode mX12_flows.2.1 137 = .ok (.isub, 1) := by decide +kernel
theorem dX12_flows_138 : decode mX12_flows.2.1 138 = .ok (.iconst 2, 1) := by decide +kernel
theorem dX12_flows_139 : decode mX12_flows.2.1 139 = .ok (.idiv, 1) := by decide +kernel
theorem dX12_flows_140 : decode mX12_flows.2.1 140 = .ok (.istore_n 3, 1) := by decide +kernel
theorem dX12_flows_141 : decode mX12_flows.2.1 141 = .ok (.aload_n 0, 1) := by decide +kernel
theorem dX12_flows_142 : decode mX12_flows.2.1 142 = .ok (.getfield 91, 3) := by decide +kernel
theorem dX12_flows_145 : decode mX12_flows.2.1 145 = .ok (.iload_n 1, 1) := by decide +kernel
theorem dX12_flows_146 : decode mX12_flows.2.1 146 = .ok (.dup2, 1) := by decide +kernel
theorem dX12_flows_147 : decode mX12_flows.2.1 147 = .ok (.iaload, 1) := by decide +kernel
theorem dX12_flows_148 : decode mX12_flows.2.1 148 = .ok (.iload_n 3, 1) := by decide +kernel
theorem dX12_flows_149 : decode mX12_flows.2.1 149 = .ok (.isub, 1) := by decide +kernel
theorem dX12_flows_150 : decode mX12_flows.2.1 150 = .ok (.iastore, 1) := by decide +kernel
theorem dX12_flows_151 : decode mX12_flows.2.1 151 = .ok (.aload_n 0, 1) := by decide +kernel
theorem dX12_flows_152 : decode mX12_flows.2.1 152 = .ok (.getfield 91, 3) := by decide +kernel
theorem dX12_flows_155 : decode mX12_flows.2.1 155 = .ok (.iload_n 2, 1) := by decide +kernel
theorem dX12_flows_156 : decode mX12_flows.2.1 156 = .ok (.dup2, 1) := by decide +kernel
theorem dX12_flows_157 : decode mX12_flows.2.1 157 = .ok (.iaload, 1) := by decide +kernel
theorem dX12_flows_158 : decode mX12_flows.2.1 158 = .ok (.iload_n 3, 1) := by decide +kernel
theorem dX12_flows_159 : decode mX12_flows.2.1 159 = .ok (.iadd, 1) := by decide +kernel
theorem dX12_flows_160 : decode mX12_flows.2.1 160 = .ok (.iastore, 1) := by decide +kernel
theorem dX12_flows_161 : decode mX12_flows.2.1 161 = .ok (.iinc 1 1, 3) := by decide +kernel
theorem dX12_flows_164 : decode mX12_flows.2.1 164 = .ok (.goto (-141), 3) := by decide +kernel
theorem dX12_flows_167 : decode mX12_flows.2.1 167 = .ok (.iconst 0, 1) := by decide +kernel
theorem dX12_flows_168 : decode mX12_flows.2.1 168 = .ok (.istore_n 1, 1) := by decide +kernel
theorem dX12_flows_169 : decode mX12_flows.2.1 169 = .ok (.iload_n 1, 1) := by decide +kernel
theorem dX12_flows_170 : decode mX12_flows.2.1 170 = .ok (.bipush 64, 2) := by decide +kernel
theorem dX12_flows_172 : decode mX12_flows.2.1 172 = .ok (.if_icmp .ge 27, 3) := by decide +kernel
theorem dX12_flows_175 : decode mX12_flows.2.1 175 = .ok (.aload_n 0, 1) := by decide +kernel
theorem dX12_flows_176 : decode mX12_flows.2.1 176 = .ok (.getfield 7, 3) := by decide +kernel
theorem dX12_flows_179 : decode mX12_flows.2.1 179 = .ok (.bipush 64, 2) := by decide +kernel
theorem dX12_flows_181 : decode mX12_flows.2.1 181 = .ok (.iload_n 1, 1) := by decide +kernel
theorem dX12_flows_182 : decode mX12_flows.2.1 182 = .ok (.iadd, 1) := by decide +kernel
theorem dX12_flows_183 : decode mX12_flows.2.1 183 = .ok (.dup2, 1) := by decide +kernel
theorem dX12_flows_184 : decode mX12_flows.2.1 184 = .ok (.iaload, 1) := by decide +kernel
theorem dX12_flows_185 : decode mX12_flows.2.1 185 = .ok (.aload_n 0, 1) := by decide +kernel
theorem dX12_flows_186 : decode mX12_flows.2.1 186 = .ok (.getfield 91, 3) := by decide +kernel
theorem dX12_flows_189 : decode mX12_flows.2.1 189 = .ok (.iload_n 1, 1) := by decide +kernel
theorem dX12_flows_190 : decode mX12_flows.2.1 190 = .ok (.iaload, 1) := by decide +kernel
theorem dX12_flows_191 : decode mX12_flows.2.1 191 = .ok (.iadd, 1) := by decide +kernel
theorem dX12_flows_192 : decode mX12_flows.2.1 192 = .ok (.iastore, 1) := by decide +kernel
theorem dX12_flows_193 : decode mX12_flows.2.1 193 = .ok (.iinc 1 1, 3) := by decide +kernel
theorem dX12_flows_196 : decode mX12_flows.2.1 196 = .ok (.goto (-27), 3) := by decide +kernel
theorem dX12_flows_199 : decode mX12_flows.2.1 199 = .ok (.return_, 1) := by decide +kernel
theorem dX12_dries_0 : decode mX12_dries.2.1 0 = .ok (.iconst 0, 1) := by decide +kernel
theorem dX12_dries_1 : decode mX12_dries.2.1 1 = .ok (.istore_n 1, 1) := by decide +kernel
theorem dX12_dries_2 : decode mX12_dries.2.1 2 = .ok (.iload_n 1, 1) := by decide +kernel
theorem dX12_dries_3 : decode mX12_dries.2.1 3 = .ok (.bipush 64, 2) := by decide +kernel
theorem dX12_dries_5 : decode mX12_dries.2.1 5 = .ok (.if_icmp .ge 47, 3) := by decide +kernel
theorem dX12_dries_8 : decode mX12_dries.2.1 8 = .ok (.aload_n 0, 1) := by decide +kernel
theorem dX12_dries_9 : decode mX12_dries.2.1 9 = .ok (.getfield 7, 3) := by decide +kernel
theorem dX12_dries_12 : decode mX12_dries.2.1 12 = .ok (.bipush 64, 2) := by decide +kernel
theorem dX12_dries_14 : decode mX12_dries.2.1 14 = .ok (.iload_n 1, 1) := by decide +kernel
theorem dX12_dries_15 : decode mX12_dries.2.1 15 = .ok (.iadd, 1) := by decide +kernel
theorem dX12_dries_16 : decode mX12_dries.2.1 16 = .ok (.iaload, 1) := by decide +kernel
theorem dX12_dries_17 : decode mX12_dries.2.1 17 = .ok (.ifCond .ne 6, 3) := by decide +kernel
theorem dX12_dries_20 : decode mX12_dries.2.1 20 = .ok (.goto 26, 3) := by decide +kernel
theorem dX12_dries_23 : decode mX12_dries.2.1 23 = .ok (.aload_n 0, 1) := by decide +kernel
theorem dX12_dries_24 : decode mX12_dries.2.1 24 = .ok (.getfield 7, 3) := by decide +kernel
theorem dX12_dries_27 : decode mX12_dries.2.1 27 = .ok (.bipush 64, 2) := by decide +kernel
theorem dX12_dries_29 : decode mX12_dries.2.1 29 = .ok (.iload_n 1, 1) := by decide +kernel
theorem dX12_dries_30 : decode mX12_dries.2.1 30 = .ok (.iadd, 1) := by decide +kernel
theorem dX12_dries_31 : decode mX12_dries.2.1 31 = .ok (.dup2, 1) := by decide +kernel
theorem dX12_dries_32 : decode mX12_dries.2.1 32 = .ok (.iaload, 1) := by decide +kernel
theorem dX12_dries_33 : decode mX12_dries.2.1 33 = .ok (.iconst 1, 1) := by decide +kernel
theorem dX12_dries_34 : decode mX12_dries.2.1 34 = .ok (.isub, 1) := by decide +kernel
theorem dX12_dries_35 : decode mX12_dries.2.1 35 = .ok (.iastore, 1) := by decide +kernel
theorem dX12_dries_36 : decode mX12_dries.2.1 36 = .ok (.aload_n 0, 1) := by decide +kernel
theorem dX12_dries_37 : decode mX12_dries.2.1 37 = .ok (.dup, 1) := by decide +kernel
theorem dX12_dries_38 : decode mX12_dries.2.1 38 = .ok (.getfield 159, 3) := by decide +kernel
theorem dX12_dries_41 : decode mX12_dries.2.1 41 = .ok (.lconst 1, 1) := by decide +kernel
theorem dX12_dries_42 : decode mX12_dries.2.1 42 = .ok (.ladd, 1) := by decide +kernel
theorem dX12_dries_43 : decode mX12_dries.2.1 43 = .ok (.putfield 159, 3) := by decide +kernel
theorem dX12_dries_46 : decode mX12_dries.2.1 46 = .ok (.iinc 1 1, 3) := by decide +kernel
theorem dX12_dries_49 : decode mX12_dries.2.1 49 = .ok (.goto (-47), 3) := by decide +kernel
theorem dX12_dries_52 : decode mX12_dries.2.1 52 = .ok (.return_, 1) := by decide +kernel
theorem dX12_mayTake_0 : decode mX12_mayTake.2.1 0 = .ok (.aload_n 0, 1) := by decide +kernel
theorem dX12_mayTake_1 : decode mX12_mayTake.2.1 1 = .ok (.iconst 1, 1) := by decide +kernel
theorem dX12_mayTake_2 : decode mX12_mayTake.2.1 2 = .ok (.iload_n 1, 1) := by decide +kernel
theorem dX12_mayTake_3 : decode mX12_mayTake.2.1 3 = .ok (.invokevirtual 188, 3) := by decide +kernel
theorem dX12_mayTake_6 : decode mX12_mayTake.2.1 6 = .ok (.ifCond .ne 56, 3) := by decide +kernel
theorem dX12_mayTake_9 : decode mX12_mayTake.2.1 9 = .ok (.aload_n 0, 1) := by decide +kernel
theorem dX12_mayTake_10 : decode mX12_mayTake.2.1 10 = .ok (.getfield 7, 3) := by decide +kernel
theorem dX12_mayTake_13 : decode mX12_mayTake.2.1 13 = .ok (.sipush 976, 3) := by decide +kernel
theorem dX12_mayTake_16 : decode mX12_mayTake.2.1 16 = .ok (.iload_n 1, 1) := by decide +kernel
theorem dX12_mayTake_17 : decode mX12_mayTake.2.1 17 = .ok (.iadd, 1) := by decide +kernel
theorem dX12_mayTake_18 : decode mX12_mayTake.2.1 18 = .ok (.iaload, 1) := by decide +kernel
theorem dX12_mayTake_19 : decode mX12_mayTake.2.1 19 = .ok (.ifCond .ne 43, 3) := by decide +kernel
theorem dX12_mayTake_22 : decode mX12_mayTake.2.1 22 = .ok (.aload_n 0, 1) := by decide +kernel
theorem dX12_mayTake_23 : decode mX12_mayTake.2.1 23 = .ok (.getfield 40, 3) := by decide +kernel
theorem dX12_mayTake_26 : decode mX12_mayTake.2.1 26 = .ok (.iload_n 1, 1) := by decide +kernel
theorem dX12_mayTake_27 : decode mX12_mayTake.2.1 27 = .ok (.iaload, 1) := by decide +kernel
theorem dX12_mayTake_28 : decode mX12_mayTake.2.1 28 = .ok (.aload_n 0, 1) := by decide +kernel
theorem dX12_mayTake_29 : decode mX12_mayTake.2.1 29 = .ok (.getfield 55, 3) := by decide +kernel
theorem dX12_mayTake_32 : decode mX12_mayTake.2.1 32 = .ok (.iload_n 2, 1) := by decide +kernel
theorem dX12_mayTake_33 : decode mX12_mayTake.2.1 33 = .ok (.iaload, 1) := by decide +kernel
theorem dX12_mayTake_34 : decode mX12_mayTake.2.1 34 = .ok (.if_icmp .ne 28, 3) := by decide +kernel
theorem dX12_mayTake_37 : decode mX12_mayTake.2.1 37 = .ok (.iconst 4, 1) := by decide +kernel
theorem dX12_mayTake_38 : decode mX12_mayTake.2.1 38 = .ok (.aload_n 0, 1) := by decide +kernel
theorem dX12_mayTake_39 : decode mX12_mayTake.2.1 39 = .ok (.getfield 7, 3) := by decide +kernel
theorem dX12_mayTake_42 : decode mX12_mayTake.2.1 42 = .ok (.sipush 968, 3) := by decide +kernel
theorem dX12_mayTake_45 : decode mX12_mayTake.2.1 45 = .ok (.iload_n 1, 1) := by decide +kernel
theorem dX12_mayTake_46 : decode mX12_mayTake.2.1 46 = .ok (.iadd, 1) := by decide +kernel
theorem dX12_mayTake_47 : decode mX12_mayTake.2.1 47 = .ok (.iaload, 1) := by decide +kernel
theorem dX12_mayTake_48 : decode mX12_mayTake.2.1 48 = .ok (.imul, 1) := by decide +kernel
theorem dX12_mayTake_49 : decode mX12_mayTake.2.1 49 = .ok (.aload_n 0, 1) := by decide +kernel
theorem dX12_mayTake_50 : decode mX12_mayTake.2.1 50 = .ok (.getfield 52, 3) := by decide +kernel
theorem dX12_mayTake_53 : decode mX12_mayTake.2.1 53 = .ok (.iload_n 1, 1) := by decide +kernel
theorem dX12_mayTake_54 : decode mX12_mayTake.2.1 54 = .ok (.iaload, 1) := by decide +kernel
theorem dX12_mayTake_55 : decode mX12_mayTake.2.1 55 = .ok (.if_icmp .lt 7, 3) := by decide +kernel
theorem dX12_mayTake_58 : decode mX12_mayTake.2.1 58 = .ok (.iconst 1, 1) := by decide +kernel
theorem dX12_mayTake_59 : decode mX12_mayTake.2.1 59 = .ok (.goto 4, 3) := by decide +kernel
theorem dX12_mayTake_62 : decode mX12_mayTake.2.1 62 = .ok (.iconst 0, 1) := by decide +kernel
theorem dX12_mayTake_63 : decode mX12_mayTake.2.1 63 = .ok (.ireturn, 1) := by decide +kernel
theorem dX12_drops_0 : decode mX12_drops.2.1 0 = .ok (.aload_n 0, 1) := by decide +kernel
theorem dX12_drops_1 : decode mX12_drops.2.1 1 = .ok (.getfield 7, 3) := by decide +kernel
theorem dX12_drops_4 : decode mX12_drops.2.1 4 = .ok (.sipush 984, 3) := by decide +kernel
theorem dX12_drops_7 : decode mX12_drops.2.1 7 = .ok (.iload_n 1, 1) := by decide +kernel
theorem dX12_drops_8 : decode mX12_drops.2.1 8 = .ok (.iadd, 1) := by decide +kernel
theorem dX12_drops_9 : decode mX12_drops.2.1 9 = .ok (.iaload, 1) := by decide +kernel
theorem dX12_drops_10 : decode mX12_drops.2.1 10 = .ok (.istore_n 2, 1) := by decide +kernel
theorem dX12_drops_11 : decode mX12_drops.2.1 11 = .ok (.iload_n 2, 1) := by decide +kernel
theorem dX12_drops_12 : decode mX12_drops.2.1 12 = .ok (.iconst (-1), 1) := by decide +kernel
theorem dX12_drops_13 : decode mX12_drops.2.1 13 = .ok (.if_icmp .ne 4, 3) := by decide +kernel
theorem dX12_drops_16 : decode mX12_drops.2.1 16 = .ok (.return_, 1) := by decide +kernel
theorem dX12_drops_17 : decode mX12_drops.2.1 17 = .ok (.aload_n 0, 1) := by decide +kernel
theorem dX12_drops_18 : decode mX12_drops.2.1 18 = .ok (.getfield 7, 3) := by decide +kernel
theorem dX12_drops_21 : decode mX12_drops.2.1 21 = .ok (.sipush 1504, 3) := by decide +kernel
theorem dX12_drops_24 : decode mX12_drops.2.1 24 = .ok (.iload_n 2, 1) := by decide +kernel
theorem dX12_drops_25 : decode mX12_drops.2.1 25 = .ok (.iadd, 1) := by decide +kernel
theorem dX12_drops_26 : decode mX12_drops.2.1 26 = .ok (.iconst 0, 1) := by decide +kernel
theorem dX12_drops_27 : decode mX12_drops.2.1 27 = .ok (.iastore, 1) := by decide +kernel
theorem dX12_drops_28 : decode mX12_drops.2.1 28 = .ok (.aload_n 0, 1) := by decide +kernel
theorem dX12_drops_29 : decode mX12_drops.2.1 29 = .ok (.getfield 7, 3) := by decide +kernel
theorem dX12_drops_32 : decode mX12_drops.2.1 32 = .ok (.sipush 1564, 3) := by decide +kernel
theorem dX12_drops_35 : decode mX12_drops.2.1 35 = .ok (.iload_n 2, 1) := by decide +kernel
theorem dX12_drops_36 : decode mX12_drops.2.1 36 = .ok (.iadd, 1) := by decide +kernel
theorem dX12_drops_37 : decode mX12_drops.2.1 37 = .ok (.iconst (-1), 1) := by decide +kernel
theorem dX12_drops_38 : decode mX12_drops.2.1 38 = .ok (.iastore, 1) := by decide +kernel
theorem dX12_drops_39 : decode mX12_drops.2.1 39 = .ok (.aload_n 0, 1) := by decide +kernel
theorem dX12_drops_40 : decode mX12_drops.2.1 40 = .ok (.getfield 7, 3) := by decide +kernel
theorem dX12_drops_43 : decode mX12_drops.2.1 43 = .ok (.sipush 984, 3) := by decide +kernel
theorem dX12_drops_46 : decode mX12_drops.2.1 46 = .ok (.iload_n 1, 1) := by decide +kernel
theorem dX12_drops_47 : decode mX12_drops.2.1 47 = .ok (.iadd, 1) := by decide +kernel
theorem dX12_drops_48 : decode mX12_drops.2.1 48 = .ok (.iconst (-1), 1) := by decide +kernel
theorem dX12_drops_49 : decode mX12_drops.2.1 49 = .ok (.iastore, 1) := by decide +kernel
theorem dX12_drops_50 : decode mX12_drops.2.1 50 = .ok (.return_, 1) := by decide +kernel
theorem dX12_pulls_0 : decode mX12_pulls.2.1 0 = .ok (.iconst 0, 1) := by decide +kernel
theorem dX12_pulls_1 : decode mX12_pulls.2.1 1 = .ok (.istore_n 3, 1) := by decide +kernel
theorem dX12_pulls_2 : decode mX12_pulls.2.1 2 = .ok (.iload_n 3, 1) := by decide +kernel
theorem dX12_pulls_3 : decode mX12_pulls.2.1 3 = .ok (.aload_n 0, 1) := by decide +kernel
theorem dX12_pulls_4 : decode mX12_pulls.2.1 4 = .ok (.getfield 7, 3) := by decide +kernel
theorem dX12_pulls_7 : decode mX12_pulls.2.1 7 = .ok (.sipush 1631, 3) := by decide +kernel
theorem dX12_pulls_10 : decode mX12_pulls.2.1 10 = .ok (.iaload, 1) := by decide +kernel
theorem dX12_pulls_11 : decode mX12_pulls.2.1 11 = .ok (.if_icmp .ge 72, 3) := by decide +kernel
theorem dX12_pulls_14 : decode mX12_pulls.2.1 14 = .ok (.aload_n 0, 1) := by decide +kernel
theorem dX12_pulls_15 : decode mX12_pulls.2.1 15 = .ok (.getfield 7, 3) := by decide +kernel
theorem dX12_pulls_18 : decode mX12_pulls.2.1 18 = .ok (.sipush 976, 3) := by decide +kernel
theorem dX12_pulls_21 : decode mX12_pulls.2.1 21 = .ok (.iload_n 3, 1) := by decide +kernel
theorem dX12_pulls_22 : decode mX12_pulls.2.1 22 = .ok (.iadd, 1) := by decide +kernel
theorem dX12_pulls_23 : decode mX12_pulls.2.1 23 = .ok (.iaload, 1) := by decide +kernel
theorem dX12_pulls_24 : decode mX12_pulls.2.1 24 = .ok (.iconst 4, 1) := by decide +kernel
theorem dX12_pulls_25 : decode mX12_pulls.2.1 25 = .ok (.if_icmp .ne 52, 3) := by decide +kernel
theorem dX12_pulls_28 : decode mX12_pulls.2.1 28 = .ok (.aload_n 0, 1) := by decide +kernel
theorem dX12_pulls_29 : decode mX12_pulls.2.1 29 = .ok (.getfield 7, 3) := by decide +kernel
theorem dX12_pulls_32 : decode mX12_pulls.2.1 32 = .ok (.sipush 960, 3) := by decide +kernel
theorem dX12_pulls_35 : decode mX12_pulls.2.1 35 = .ok (.iload_n 3, 1) := by decide +kernel
theorem dX12_pulls_36 : decode mX12_pulls.2.1 36 = .ok (.iadd, 1) := by decide +kernel
theorem dX12_pulls_37 : decode mX12_pulls.2.1 37 = .ok (.iaload, 1) := by decide +kernel
theorem dX12_pulls_38 : decode mX12_pulls.2.1 38 = .ok (.iload_n 2, 1) := by decide +kernel
theorem dX12_pulls_39 : decode mX12_pulls.2.1 39 = .ok (.if_icmp .eq 6, 3) := by decide +kernel
theorem dX12_pulls_42 : decode mX12_pulls.2.1 42 = .ok (.goto 35, 3) := by decide +kernel
theorem dX12_pulls_45 : decode mX12_pulls.2.1 45 = .ok (.aload_n 0, 1) := by decide +kernel
theorem dX12_pulls_46 : decode mX12_pulls.2.1 46 = .ok (.getfield 7, 3) := by decide +kernel
theorem dX12_pulls_49 : decode mX12_pulls.2.1 49 = .ok (.sipush 960, 3) := by decide +kernel
theorem dX12_pulls_52 : decode mX12_pulls.2.1 52 = .ok (.iload_n 3, 1) := by decide +kernel
theorem dX12_pulls_53 : decode mX12_pulls.2.1 53 = .ok (.iadd, 1) := by decide +kernel
theorem dX12_pulls_54 : decode mX12_pulls.2.1 54 = .ok (.aload_n 0, 1) := by decide +kernel
theorem dX12_pulls_55 : decode mX12_pulls.2.1 55 = .ok (.getfield 7, 3) := by decide +kernel
theorem dX12_pulls_58 : decode mX12_pulls.2.1 58 = .ok (.sipush 960, 3) := by decide +kernel
theorem dX12_pulls_61 : decode mX12_pulls.2.1 61 = .ok (.iload_n 1, 1) := by decide +kernel
theorem dX12_pulls_62 : decode mX12_pulls.2.1 62 = .ok (.iadd, 1) := by decide +kernel
theorem dX12_pulls_63 : decode mX12_pulls.2.1 63 = .ok (.iaload, 1) := by decide +kernel
theorem dX12_pulls_64 : decode mX12_pulls.2.1 64 = .ok (.iastore, 1) := by decide +kernel
theorem dX12_pulls_65 : decode mX12_pulls.2.1 65 = .ok (.aload_n 0, 1) := by decide +kernel
theorem dX12_pulls_66 : decode mX12_pulls.2.1 66 = .ok (.getfield 7, 3) := by decide +kernel
theorem dX12_pulls_69 : decode mX12_pulls.2.1 69 = .ok (.sipush 976, 3) := by decide +kernel
theorem dX12_pulls_72 : decode mX12_pulls.2.1 72 = .ok (.iload_n 3, 1) := by decide +kernel
theorem dX12_pulls_73 : decode mX12_pulls.2.1 73 = .ok (.iadd, 1) := by decide +kernel
theorem dX12_pulls_74 : decode mX12_pulls.2.1 74 = .ok (.iconst 0, 1) := by decide +kernel
theorem dX12_pulls_75 : decode mX12_pulls.2.1 75 = .ok (.iastore, 1) := by decide +kernel
theorem dX12_pulls_76 : decode mX12_pulls.2.1 76 = .ok (.return_, 1) := by decide +kernel
theorem dX12_pulls_77 : decode mX12_pulls.2.1 77 = .ok (.iinc 3 1, 3) := by decide +kernel
theorem dX12_pulls_80 : decode mX12_pulls.2.1 80 = .ok (.goto (-78), 3) := by decide +kernel
theorem dX12_pulls_83 : decode mX12_pulls.2.1 83 = .ok (.return_, 1) := by decide +kernel
theorem dX12_lotIsLow_0 : decode mX12_lotIsLow.2.1 0 = .ok (.aload_n 0, 1) := by decide +kernel
theorem dX12_lotIsLow_1 : decode mX12_lotIsLow.2.1 1 = .ok (.getfield 64, 3) := by decide +kernel
theorem dX12_lotIsLow_4 : decode mX12_lotIsLow.2.1 4 = .ok (.aload_n 0, 1) := by decide +kernel
theorem dX12_lotIsLow_5 : decode mX12_lotIsLow.2.1 5 = .ok (.getfield 7, 3) := by decide +kernel
theorem dX12_lotIsLow_8 : decode mX12_lotIsLow.2.1 8 = .ok (.sipush 1625, 3) := by decide +kernel
theorem dX12_lotIsLow_11 : decode mX12_lotIsLow.2.1 11 = .ok (.iaload, 1) := by decide +kernel
theorem dX12_lotIsLow_12 : decode mX12_lotIsLow.2.1 12 = .ok (.iaload, 1) := by decide +kernel
theorem dX12_lotIsLow_13 : decode mX12_lotIsLow.2.1 13 = .ok (.istore_n 1, 1) := by decide +kernel
theorem dX12_lotIsLow_14 : decode mX12_lotIsLow.2.1 14 = .ok (.aload_n 0, 1) := by decide +kernel
theorem dX12_lotIsLow_15 : decode mX12_lotIsLow.2.1 15 = .ok (.getfield 7, 3) := by decide +kernel
theorem dX12_lotIsLow_18 : decode mX12_lotIsLow.2.1 18 = .ok (.sipush 1625, 3) := by decide +kernel
theorem dX12_lotIsLow_21 : decode mX12_lotIsLow.2.1 21 = .ok (.dup2, 1) := by decide +kernel
theorem dX12_lotIsLow_22 : decode mX12_lotIsLow.2.1 22 = .ok (.iaload, 1) := by decide +kernel
theorem dX12_lotIsLow_23 : decode mX12_lotIsLow.2.1 23 = .ok (.iconst 1, 1) := by decide +kernel
theorem dX12_lotIsLow_24 : decode mX12_lotIsLow.2.1 24 = .ok (.iadd, 1) := by decide +kernel
theorem dX12_lotIsLow_25 : decode mX12_lotIsLow.2.1 25 = .ok (.iastore, 1) := by decide +kernel
theorem dX12_lotIsLow_26 : decode mX12_lotIsLow.2.1 26 = .ok (.aload_n 0, 1) := by decide +kernel
theorem dX12_lotIsLow_27 : decode mX12_lotIsLow.2.1 27 = .ok (.getfield 7, 3) := by decide +kernel
theorem dX12_lotIsLow_30 : decode mX12_lotIsLow.2.1 30 = .ok (.sipush 1625, 3) := by decide +kernel
theorem dX12_lotIsLow_33 : decode mX12_lotIsLow.2.1 33 = .ok (.iaload, 1) := by decide +kernel
theorem dX12_lotIsLow_34 : decode mX12_lotIsLow.2.1 34 = .ok (.aload_n 0, 1) := by decide +kernel
theorem dX12_lotIsLow_35 : decode mX12_lotIsLow.2.1 35 = .ok (.getfield 7, 3) := by decide +kernel
theorem dX12_lotIsLow_38 : decode mX12_lotIsLow.2.1 38 = .ok (.sipush 1633, 3) := by decide +kernel
theorem dX12_lotIsLow_41 : decode mX12_lotIsLow.2.1 41 = .ok (.iaload, 1) := by decide +kernel
theorem dX12_lotIsLow_42 : decode mX12_lotIsLow.2.1 42 = .ok (.if_icmp .lt 12, 3) := by decide +kernel
theorem dX12_lotIsLow_45 : decode mX12_lotIsLow.2.1 45 = .ok (.aload_n 0, 1) := by decide +kernel
theorem dX12_lotIsLow_46 : decode mX12_lotIsLow.2.1 46 = .ok (.getfield 7, 3) := by decide +kernel
theorem dX12_lotIsLow_49 : decode mX12_lotIsLow.2.1 49 = .ok (.sipush 1625, 3) := by decide +kernel
theorem dX12_lotIsLow_52 : decode mX12_lotIsLow.2.1 52 = .ok (.iconst 0, 1) := by decide +kernel
theorem dX12_lotIsLow_53 : decode mX12_lotIsLow.2.1 53 = .ok (.iastore, 1) := by decide +kernel
theorem dX12_lotIsLow_54 : decode mX12_lotIsLow.2.1 54 = .ok (.iload_n 1, 1) := by decide +kernel
theorem dX12_lotIsLow_55 : decode mX12_lotIsLow.2.1 55 = .ok (.aload_n 0, 1) := by decide +kernel
theorem dX12_lotIsLow_56 : decode mX12_lotIsLow.2.1 56 = .ok (.getfield 7, 3) := by decide +kernel
theorem dX12_lotIsLow_59 : decode mX12_lotIsLow.2.1 59 = .ok (.sipush 1628, 3) := by decide +kernel
theorem dX12_lotIsLow_62 : decode mX12_lotIsLow.2.1 62 = .ok (.iaload, 1) := by decide +kernel
theorem dX12_lotIsLow_63 : decode mX12_lotIsLow.2.1 63 = .ok (.if_icmp .ge 7, 3) := by decide +kernel
theorem dX12_lotIsLow_66 : decode mX12_lotIsLow.2.1 66 = .ok (.iconst 1, 1) := by decide +kernel
theorem dX12_lotIsLow_67 : decode mX12_lotIsLow.2.1 67 = .ok (.goto 4, 3) := by decide +kernel
theorem dX12_lotIsLow_70 : decode mX12_lotIsLow.2.1 70 = .ok (.iconst 0, 1) := by decide +kernel
theorem dX12_lotIsLow_71 : decode mX12_lotIsLow.2.1 71 = .ok (.ireturn, 1) := by decide +kernel
theorem dX12_cellOf_0 : decode mX12_cellOf.2.1 0 = .ok (.aload_n 0, 1) := by decide +kernel
theorem dX12_cellOf_1 : decode mX12_cellOf.2.1 1 = .ok (.getfield 7, 3) := by decide +kernel
theorem dX12_cellOf_4 : decode mX12_cellOf.2.1 4 = .ok (.sipush 192, 3) := by decide +kernel
theorem dX12_cellOf_7 : decode mX12_cellOf.2.1 7 = .ok (.iload_n 1, 1) := by decide +kernel
theorem dX12_cellOf_8 : decode mX12_cellOf.2.1 8 = .ok (.iadd, 1) := by decide +kernel
theorem dX12_cellOf_9 : decode mX12_cellOf.2.1 9 = .ok (.iaload, 1) := by decide +kernel
theorem dX12_cellOf_10 : decode mX12_cellOf.2.1 10 = .ok (.iconst 1, 1) := by decide +kernel
theorem dX12_cellOf_11 : decode mX12_cellOf.2.1 11 = .ok (.if_icmp .ne 7, 3) := by decide +kernel
theorem dX12_cellOf_14 : decode mX12_cellOf.2.1 14 = .ok (.iconst 1, 1) := by decide +kernel
theorem dX12_cellOf_15 : decode mX12_cellOf.2.1 15 = .ok (.goto 4, 3) := by decide +kernel
theorem dX12_cellOf_18 : decode mX12_cellOf.2.1 18 = .ok (.iconst 0, 1) := by decide +kernel
theorem dX12_cellOf_19 : decode mX12_cellOf.2.1 19 = .ok (.istore_n 3, 1) := by decide +kernel
theorem dX12_cellOf_20 : decode mX12_cellOf.2.1 20 = .ok (.iload_n 2, 1) := by decide +kernel
theorem dX12_cellOf_21 : decode mX12_cellOf.2.1 21 = .ok (.tableswitch 220 0 10 #[59, 68, 78, 89, 100, 119, 138, 157, 176, 187, 201], 59) := by decide +kernel
theorem dX12_cellOf_80 : decode mX12_cellOf.2.1 80 = .ok (.aload_n 0, 1) := by decide +kernel
theorem dX12_cellOf_81 : decode mX12_cellOf.2.1 81 = .ok (.getfield 7, 3) := by decide +kernel
theorem dX12_cellOf_84 : decode mX12_cellOf.2.1 84 = .ok (.iconst 0, 1) := by decide +kernel
theorem dX12_cellOf_85 : decode mX12_cellOf.2.1 85 = .ok (.iload_n 1, 1) := by decide +kernel
theorem dX12_cellOf_86 : decode mX12_cellOf.2.1 86 = .ok (.iadd, 1) := by decide +kernel
theorem dX12_cellOf_87 : decode mX12_cellOf.2.1 87 = .ok (.iaload, 1) := by decide +kernel
theorem dX12_cellOf_88 : decode mX12_cellOf.2.1 88 = .ok (.ireturn, 1) := by decide +kernel
theorem dX12_cellOf_89 : decode mX12_cellOf.2.1 89 = .ok (.aload_n 0, 1) := by decide +kernel
theorem dX12_cellOf_90 : decode mX12_cellOf.2.1 90 = .ok (.getfield 7, 3) := by decide +kernel
theorem dX12_cellOf_93 : decode mX12_cellOf.2.1 93 = .ok (.bipush 64, 2) := by decide +kernel
theorem dX12_cellOf_95 : decode mX12_cellOf.2.1 95 = .ok (.iload_n 1, 1) := by decide +kernel
theorem dX12_cellOf_96 : decode mX12_cellOf.2.1 96 = .ok (.iadd, 1) := by decide +kernel
theorem dX12_cellOf_97 : decode mX12_cellOf.2.1 97 = .ok (.iaload, 1) := by decide +kernel
theorem dX12_cellOf_98 : decode mX12_cellOf.2.1 98 = .ok (.ireturn, 1) := by decide +kernel
theorem dX12_cellOf_99 : decode mX12_cellOf.2.1 99 = .ok (.aload_n 0, 1) := by decide +kernel
theorem dX12_cellOf_100 : decode mX12_cellOf.2.1 100 = .ok (.getfield 7, 3) := by decide +kernel
theorem dX12_cellOf_103 : decode mX12_cellOf.2.1 103 = .ok (.sipush 128, 3) := by decide +kernel
theorem dX12_cellOf_106 : decode mX12_cellOf.2.1 106 = .ok (.iload_n 1, 1) := by decide +kernel
theorem dX12_cellOf_107 : decode mX12_cellOf.2.1 107 = .ok (.iadd, 1) := by decide +kernel
theorem dX12_cellOf_108 : decode mX12_cellOf.2.1 108 = .ok (.iaload, 1) := by decide +kernel
theorem dX12_cellOf_109 : decode mX12_cellOf.2.1 109 = .ok (.ireturn, 1) := by decide +kernel
theorem dX12_cellOf_110 : decode mX12_cellOf.2.1 110 = .ok (.aload_n 0, 1) := by decide +kernel
theorem dX12_cellOf_111 : decode mX12_cellOf.2.1 111 = .ok (.getfield 7, 3) := by decide +kernel
theorem dX12_cellOf_114 : decode mX12_cellOf.2.1 114 = .ok (.sipush 192, 3) := by decide +kernel
theorem dX12_cellOf_117 : decode mX12_cellOf.2.1 117 = .ok (.iload_n 1, 1) := by decide +kernel
theorem dX12_cellOf_118 : decode mX12_cellOf.2.1 118 = .ok (.iadd, 1) := by decide +kernel
theorem dX12_cellOf_119 : decode mX12_cellOf.2.1 119 = .ok (.iaload, 1) := by decide +kernel
theorem dX12_cellOf_120 : decode mX12_cellOf.2.1 120 = .ok (.ireturn, 1) := by decide +kernel
theorem dX12_cellOf_121 : decode mX12_cellOf.2.1 121 = .ok (.iload_n 3, 1) := by decide +kernel
theorem dX12_cellOf_122 : decode mX12_cellOf.2.1 122 = .ok (.ifCond .eq 16, 3) := by decide +kernel
theorem dX12_cellOf_125 : decode mX12_cellOf.2.1 125 = .ok (.aload_n 0, 1) := by decide +kernel
theorem dX12_cellOf_126 : decode mX12_cellOf.2.1 126 = .ok (.getfield 7, 3) := by decide +kernel
theorem dX12_cellOf_129 : decode mX12_cellOf.2.1 129 = .ok (.sipush 256, 3) := by decide +kernel
theorem dX12_cellOf_132 : decode mX12_cellOf.2.1 132 = .ok (.iload_n 1, 1) := by decide +kernel
theorem dX12_cellOf_133 : decode mX12_cellOf.2.1 133 = .ok (.iadd, 1) := by decide +kernel
theorem dX12_cellOf_134 : decode mX12_cellOf.2.1 134 = .ok (.iaload, 1) := by decide +kernel
theorem dX12_cellOf_135 : decode mX12_cellOf.2.1 135 = .ok (.goto 4, 3) := by decide +kernel
theorem dX12_cellOf_138 : decode mX12_cellOf.2.1 138 = .ok (.iconst 0, 1) := by decide +kernel
theorem dX12_cellOf_139 : decode mX12_cellOf.2.1 139 = .ok (.ireturn, 1) := by decide +kernel
theorem dX12_cellOf_140 : decode mX12_cellOf.2.1 140 = .ok (.iload_n 3, 1) := by decide +kernel
theorem dX12_cellOf_141 : decode mX12_cellOf.2.1 141 = .ok (.ifCond .eq 16, 3) := by decide +kernel
theorem dX12_cellOf_144 : decode mX12_cellOf.2.1 144 = .ok (.aload_n 0, 1) := by decide +kernel
theorem dX12_cellOf_145 : decode mX12_cellOf.2.1 145 = .ok (.getfield 7, 3) := by decide +kernel
theorem dX12_cellOf_148 : decode mX12_cellOf.2.1 148 = .ok (.sipush 320, 3) := by decide +kernel
theorem dX12_cellOf_151 : decode mX12_cellOf.2.1 151 = .ok (.iload_n 1, 1) := by decide +kernel
theorem dX12_cellOf_152 : decode mX12_cellOf.2.1 152 = .ok (.iadd, 1) := by decide +kernel
theorem dX12_cellOf_153 : decode mX12_cellOf.2.1 153 = .ok (.iaload, 1) := by decide +kernel
theorem dX12_cellOf_154 : decode mX12_cellOf.2.1 154 = .ok (.goto 4, 3) := by decide +kernel
theorem dX12_cellOf_157 : decode mX12_cellOf.2.1 157 = .ok (.iconst 0, 1) := by decide +kernel
theorem dX12_cellOf_158 : decode mX12_cellOf.2.1 158 = .ok (.ireturn, 1) := by decide +kernel
theorem dX12_cellOf_159 : decode mX12_cellOf.2.1 159 = .ok (.iload_n 3, 1) := by decide +kernel
theorem dX12_cellOf_160 : decode mX12_cellOf.2.1 160 = .ok (.ifCond .eq 16, 3) := by decide +kernel
theorem dX12_cellOf_163 : decode mX12_cellOf.2.1 163 = .ok (.aload_n 0, 1) := by decide +kernel
theorem dX12_cellOf_164 : decode mX12_cellOf.2.1 164 = .ok (.getfield 7, 3) := by decide +kernel
theorem dX12_cellOf_167 : decode mX12_cellOf.2.1 167 = .ok (.sipush 384, 3) := by decide +kernel
theorem dX12_cellOf_170 : decode mX12_cellOf.2.1 170 = .ok (.iload_n 1, 1) := by decide +kernel
theorem dX12_cellOf_171 : decode mX12_cellOf.2.1 171 = .ok (.iadd, 1) := by decide +kernel
theorem dX12_cellOf_172 : decode mX12_cellOf.2.1 172 = .ok (.iaload, 1) := by decide +kernel
theorem dX12_cellOf_173 : decode mX12_cellOf.2.1 173 = .ok (.goto 4, 3) := by decide +kernel
theorem dX12_cellOf_176 : decode mX12_cellOf.2.1 176 = .ok (.iconst 0, 1) := by decide +kernel
theorem dX12_cellOf_177 : decode mX12_cellOf.2.1 177 = .ok (.ireturn, 1) := by decide +kernel
theorem dX12_cellOf_178 : decode mX12_cellOf.2.1 178 = .ok (.iload_n 3, 1) := by decide +kernel
theorem dX12_cellOf_179 : decode mX12_cellOf.2.1 179 = .ok (.ifCond .eq 16, 3) := by decide +kernel
theorem dX12_cellOf_182 : decode mX12_cellOf.2.1 182 = .ok (.aload_n 0, 1) := by decide +kernel
theorem dX12_cellOf_183 : decode mX12_cellOf.2.1 183 = .ok (.getfield 7, 3) := by decide +kernel
theorem dX12_cellOf_186 : decode mX12_cellOf.2.1 186 = .ok (.sipush 448, 3) := by decide +kernel
theorem dX12_cellOf_189 : decode mX12_cellOf.2.1 189 = .ok (.iload_n 1, 1) := by decide +kernel
theorem dX12_cellOf_190 : decode mX12_cellOf.2.1 190 = .ok (.iadd, 1) := by decide +kernel
theorem dX12_cellOf_191 : decode mX12_cellOf.2.1 191 = .ok (.iaload, 1) := by decide +kernel
theorem dX12_cellOf_192 : decode mX12_cellOf.2.1 192 = .ok (.goto 4, 3) := by decide +kernel
theorem dX12_cellOf_195 : decode mX12_cellOf.2.1 195 = .ok (.iconst 0, 1) := by decide +kernel
theorem dX12_cellOf_196 : decode mX12_cellOf.2.1 196 = .ok (.ireturn, 1) := by decide +kernel
theorem dX12_cellOf_197 : decode mX12_cellOf.2.1 197 = .ok (.aload_n 0, 1) := by decide +kernel
theorem dX12_cellOf_198 : decode mX12_cellOf.2.1 198 = .ok (.getfield 7, 3) := by decide +kernel
theorem dX12_cellOf_201 : decode mX12_cellOf.2.1 201 = .ok (.sipush 512, 3) := by decide +kernel
theorem dX12_cellOf_204 : decode mX12_cellOf.2.1 204 = .ok (.iload_n 1, 1) := by decide +kernel
theorem dX12_cellOf_205 : decode mX12_cellOf.2.1 205 = .ok (.iadd, 1) := by decide +kernel
theorem dX12_cellOf_206 : decode mX12_cellOf.2.1 206 = .ok (.iaload, 1) := by decide +kernel
theorem dX12_cellOf_207 : decode mX12_cellOf.2.1 207 = .ok (.ireturn, 1) := by decide +kernel
theorem dX12_cellOf_208 : decode mX12_cellOf.2.1 208 = .ok (.iload_n 3, 1) := by decide +kernel
theorem dX12_cellOf_209 : decode mX12_cellOf.2.1 209 = .ok (.ifCond .eq 11, 3) := by decide +kernel
theorem dX12_cellOf_212 : decode mX12_cellOf.2.1 212 = .ok (.aload_n 0, 1) := by decide +kernel
theorem dX12_cellOf_213 : decode mX12_cellOf.2.1 213 = .ok (.iload_n 1, 1) := by decide +kernel
theorem dX12_cellOf_214 : decode mX12_cellOf.2.1 214 = .ok (.invokevirtual 322, 3) := by decide +kernel
theorem dX12_cellOf_217 : decode mX12_cellOf.2.1 217 = .ok (.goto 4, 3) := by decide +kernel
theorem dX12_cellOf_220 : decode mX12_cellOf.2.1 220 = .ok (.iconst 0, 1) := by decide +kernel
theorem dX12_cellOf_221 : decode mX12_cellOf.2.1 221 = .ok (.ireturn, 1) := by decide +kernel
theorem dX12_cellOf_222 : decode mX12_cellOf.2.1 222 = .ok (.iload_n 3, 1) := by decide +kernel
theorem dX12_cellOf_223 : decode mX12_cellOf.2.1 223 = .ok (.ifCond .eq 7, 3) := by decide +kernel
theorem dX12_cellOf_226 : decode mX12_cellOf.2.1 226 = .ok (.iconst 0, 1) := by decide +kernel
theorem dX12_cellOf_227 : decode mX12_cellOf.2.1 227 = .ok (.goto 13, 3) := by decide +kernel
theorem dX12_cellOf_230 : decode mX12_cellOf.2.1 230 = .ok (.aload_n 0, 1) := by decide +kernel
theorem dX12_cellOf_231 : decode mX12_cellOf.2.1 231 = .ok (.getfield 7, 3) := by decide +kernel
theorem dX12_cellOf_234 : decode mX12_cellOf.2.1 234 = .ok (.sipush 576, 3) := by decide +kernel
theorem dX12_cellOf_237 : decode mX12_cellOf.2.1 237 = .ok (.iload_n 1, 1) := by decide +kernel
theorem dX12_cellOf_238 : decode mX12_cellOf.2.1 238 = .ok (.iadd, 1) := by decide +kernel
theorem dX12_cellOf_239 : decode mX12_cellOf.2.1 239 = .ok (.iaload, 1) := by decide +kernel
theorem dX12_cellOf_240 : decode mX12_cellOf.2.1 240 = .ok (.ireturn, 1) := by decide +kernel
theorem dX12_cellOf_241 : decode mX12_cellOf.2.1 241 = .ok (.iconst (-1), 1) := by decide +kernel
theorem dX12_cellOf_242 : decode mX12_cellOf.2.1 242 = .ok (.ireturn, 1) := by decide +kernel
theorem dX12_cell_0 : decode mX12_cell.2.1 0 = .ok (.iload_n 1, 1) := by decide +kernel
theorem dX12_cell_1 : decode mX12_cell.2.1 1 = .ok (.invokestatic 199, 3) := by decide +kernel
theorem dX12_cell_4 : decode mX12_cell.2.1 4 = .ok (.ifCond .eq 12, 3) := by decide +kernel
theorem dX12_cell_7 : decode mX12_cell.2.1 7 = .ok (.aload_n 0, 1) := by decide +kernel
theorem dX12_cell_8 : decode mX12_cell.2.1 8 = .ok (.iload_n 1, 1) := by decide +kernel
theorem dX12_cell_9 : decode mX12_cell.2.1 9 = .ok (.iload_n 2, 1) := by decide +kernel
theorem dX12_cell_10 : decode mX12_cell.2.1 10 = .ok (.invokevirtual 325, 3) := by decide +kernel
theorem dX12_cell_13 : decode mX12_cell.2.1 13 = .ok (.goto 4, 3) := by decide +kernel
theorem dX12_cell_16 : decode mX12_cell.2.1 16 = .ok (.iconst (-1), 1) := by decide +kernel
theorem dX12_cell_17 : decode mX12_cell.2.1 17 = .ok (.ireturn, 1) := by decide +kernel
theorem dX12_share_0 : decode mX12_share.2.1 0 = .ok (.aload_n 0, 1) := by decide +kernel
theorem dX12_share_1 : decode mX12_share.2.1 1 = .ok (.iload_n 1, 1) := by decide +kernel
theorem dX12_share_2 : decode mX12_share.2.1 2 = .ok (.invokevirtual 228, 3) := by decide +kernel
theorem dX12_share_5 : decode mX12_share.2.1 5 = .ok (.ifCond .eq 34, 3) := by decide +kernel
theorem dX12_share_8 : decode mX12_share.2.1 8 = .ok (.iload_n 2, 1) := by decide +kernel
theorem dX12_share_9 : decode mX12_share.2.1 9 = .ok (.iconst 0, 1) := by decide +kernel
theorem dX12_share_10 : decode mX12_share.2.1 10 = .ok (.aload_n 0, 1) := by decide +kernel
theorem dX12_share_11 : decode mX12_share.2.1 11 = .ok (.getfield 225, 3) := by decide +kernel
theorem dX12_share_14 : decode mX12_share.2.1 14 = .ok (.iconst 1, 1) := by decide +kernel
theorem dX12_share_15 : decode mX12_share.2.1 15 = .ok (.isub, 1) := by decide +kernel
theorem dX12_share_16 : decode mX12_share.2.1 16 = .ok (.invokestatic 162, 3) := by decide +kernel
theorem dX12_share_19 : decode mX12_share.2.1 19 = .ok (.ifCond .eq 20, 3) := by decide +kernel
theorem dX12_share_22 : decode mX12_share.2.1 22 = .ok (.aload_n 0, 1) := by decide +kernel
theorem dX12_share_23 : decode mX12_share.2.1 23 = .ok (.getfield 7, 3) := by decide +kernel
theorem dX12_share_26 : decode mX12_share.2.1 26 = .ok (.sipush 640, 3) := by decide +kernel
theorem dX12_share_29 : decode mX12_share.2.1 29 = .ok (.iconst 5, 1) := by decide +kernel
theorem dX12_share_30 : decode mX12_share.2.1 30 = .ok (.iload_n 1, 1) := by decide +kernel
theorem dX12_share_31 : decode mX12_share.2.1 31 = .ok (.imul, 1) := by decide +kernel
theorem dX12_share_32 : decode mX12_share.2.1 32 = .ok (.iadd, 1) := by decide +kernel
theorem dX12_share_33 : decode mX12_share.2.1 33 = .ok (.iload_n 2, 1) := by decide +kernel
theorem dX12_share_34 : decode mX12_share.2.1 34 = .ok (.iadd, 1) := by decide +kernel
theorem dX12_share_35 : decode mX12_share.2.1 35 = .ok (.iaload, 1) := by decide +kernel
theorem dX12_share_36 : decode mX12_share.2.1 36 = .ok (.goto 4, 3) := by decide +kernel
theorem dX12_share_39 : decode mX12_share.2.1 39 = .ok (.iconst (-1), 1) := by decide +kernel
theorem dX12_share_40 : decode mX12_share.2.1 40 = .ok (.ireturn, 1) := by decide +kernel
theorem dX12_told_0 : decode mX12_told.2.1 0 = .ok (.aload_n 0, 1) := by decide +kernel
theorem dX12_told_1 : decode mX12_told.2.1 1 = .ok (.iload_n 1, 1) := by decide +kernel
theorem dX12_told_2 : decode mX12_told.2.1 2 = .ok (.invokevirtual 216, 3) := by decide +kernel
theorem dX12_told_5 : decode mX12_told.2.1 5 = .ok (.ifCond .ne 6, 3) := by decide +kernel
theorem dX12_told_8 : decode mX12_told.2.1 8 = .ok (.bipush (-2), 2) := by decide +kernel
theorem dX12_told_10 : decode mX12_told.2.1 10 = .ok (.ireturn, 1) := by decide +kernel
theorem dX12_told_11 : decode mX12_told.2.1 11 = .ok (.iconst 0, 1) := by decide +kernel
theorem dX12_told_12 : decode mX12_told.2.1 12 = .ok (.istore_n 3, 1) := by decide +kernel
theorem dX12_told_13 : decode mX12_told.2.1 13 = .ok (.iload_n 2, 1) := by decide +kernel
theorem dX12_told_14 : decode mX12_told.2.1 14 = .ok (.tableswitch 126 0 5 #[38, 45, 56, 67, 78, 89], 38) := by decide +kernel
theorem dX12_told_52 : decode mX12_told.2.1 52 = .ok (.aload_n 0, 1) := by decide +kernel
theorem dX12_told_53 : decode mX12_told.2.1 53 = .ok (.getfield 40, 3) := by decide +kernel
theorem dX12_told_56 : decode mX12_told.2.1 56 = .ok (.iload_n 1, 1) := by decide +kernel
theorem dX12_told_57 : decode mX12_told.2.1 57 = .ok (.iaload, 1) := by decide +kernel
theorem dX12_told_58 : decode mX12_told.2.1 58 = .ok (.ireturn, 1) := by decide +kernel
theorem dX12_told_59 : decode mX12_told.2.1 59 = .ok (.aload_n 0, 1) := by decide +kernel
theorem dX12_told_60 : decode mX12_told.2.1 60 = .ok (.getfield 7, 3) := by decide +kernel
theorem dX12_told_63 : decode mX12_told.2.1 63 = .ok (.sipush 960, 3) := by decide +kernel
theorem dX12_told_66 : decode mX12_told.2.1 66 = .ok (.iload_n 1, 1) := by decide +kernel
theorem dX12_told_67 : decode mX12_told.2.1 67 = .ok (.iadd, 1) := by decide +kernel
theorem dX12_told_68 : decode mX12_told.2.1 68 = .ok (.iaload, 1) := by decide +kernel
theorem dX12_told_69 : decode mX12_told.2.1 69 = .ok (.ireturn, 1) := by decide +kernel
theorem dX12_told_70 : decode mX12_told.2.1 70 = .ok (.aload_n 0, 1) := by decide +kernel
theorem dX12_told_71 : decode mX12_told.2.1 71 = .ok (.getfield 7, 3) := by decide +kernel
theorem dX12_told_74 : decode mX12_told.2.1 74 = .ok (.sipush 968, 3) := by decide +kernel
theorem dX12_told_77 : decode mX12_told.2.1 77 = .ok (.iload_n 1, 1) := by decide +kernel
theorem dX12_told_78 : decode mX12_told.2.1 78 = .ok (.iadd, 1) := by decide +kernel
theorem dX12_told_79 : decode mX12_told.2.1 79 = .ok (.iaload, 1) := by decide +kernel
theorem dX12_told_80 : decode mX12_told.2.1 80 = .ok (.ireturn, 1) := by decide +kernel
theorem dX12_told_81 : decode mX12_told.2.1 81 = .ok (.aload_n 0, 1) := by decide +kernel
theorem dX12_told_82 : decode mX12_told.2.1 82 = .ok (.getfield 7, 3) := by decide +kernel
theorem dX12_told_85 : decode mX12_told.2.1 85 = .ok (.sipush 976, 3) := by decide +kernel
theorem dX12_told_88 : decode mX12_told.2.1 88 = .ok (.iload_n 1, 1) := by decide +kernel
theorem dX12_told_89 : decode mX12_told.2.1 89 = .ok (.iadd, 1) := by decide +kernel
theorem dX12_told_90 : decode mX12_told.2.1 90 = .ok (.iaload, 1) := by decide +kernel
theorem dX12_told_91 : decode mX12_told.2.1 91 = .ok (.ireturn, 1) := by decide +kernel
theorem dX12_told_92 : decode mX12_told.2.1 92 = .ok (.aload_n 0, 1) := by decide +kernel
theorem dX12_told_93 : decode mX12_told.2.1 93 = .ok (.getfield 7, 3) := by decide +kernel
theorem dX12_told_96 : decode mX12_told.2.1 96 = .ok (.sipush 984, 3) := by decide +kernel
theorem dX12_told_99 : decode mX12_told.2.1 99 = .ok (.iload_n 1, 1) := by decide +kernel
theorem dX12_told_100 : decode mX12_told.2.1 100 = .ok (.iadd, 1) := by decide +kernel
theorem dX12_told_101 : decode mX12_told.2.1 101 = .ok (.iaload, 1) := by decide +kernel
theorem dX12_told_102 : decode mX12_told.2.1 102 = .ok (.ireturn, 1) := by decide +kernel
theorem dX12_told_103 : decode mX12_told.2.1 103 = .ok (.iconst 0, 1) := by decide +kernel
theorem dX12_told_104 : decode mX12_told.2.1 104 = .ok (.istore 4, 2) := by decide +kernel
theorem dX12_told_106 : decode mX12_told.2.1 106 = .ok (.iload 4, 2) := by decide +kernel
theorem dX12_told_108 : decode mX12_told.2.1 108 = .ok (.bipush 64, 2) := by decide +kernel
theorem dX12_told_110 : decode mX12_told.2.1 110 = .ok (.if_icmp .ge 28, 3) := by decide +kernel
theorem dX12_told_113 : decode mX12_told.2.1 113 = .ok (.iload_n 3, 1) := by decide +kernel
theorem dX12_told_114 : decode mX12_told.2.1 114 = .ok (.aload_n 0, 1) := by decide +kernel
theorem dX12_told_115 : decode mX12_told.2.1 115 = .ok (.getfield 7, 3) := by decide +kernel
theorem dX12_told_118 : decode mX12_told.2.1 118 = .ok (.sipush 992, 3) := by decide +kernel
theorem dX12_told_121 : decode mX12_told.2.1 121 = .ok (.bipush 64, 2) := by decide +kernel
theorem dX12_told_123 : decode mX12_told.2.1 123 = .ok (.iload_n 1, 1) := by decide +kernel
theorem dX12_told_124 : decode mX12_told.2.1 124 = .ok (.imul, 1) := by decide +kernel
theorem dX12_told_125 : decode mX12_told.2.1 125 = .ok (.iadd, 1) := by decide +kernel
theorem dX12_told_126 : decode mX12_told.2.1 126 = .ok (.iload 4, 2) := by decide +kernel
theorem dX12_told_128 : decode mX12_told.2.1 128 = .ok (.iadd, 1) := by decide +kernel
theorem dX12_told_129 : decode mX12_told.2.1 129 = .ok (.iaload, 1) := by decide +kernel
theorem dX12_told_130 : decode mX12_told.2.1 130 = .ok (.iadd, 1) := by decide +kernel
theorem dX12_told_131 : decode mX12_told.2.1 131 = .ok (.istore_n 3, 1) := by decide +kernel
theorem dX12_told_132 : decode mX12_told.2.1 132 = .ok (.iinc 4 1, 3) := by decide +kernel
theorem dX12_told_135 : decode mX12_told.2.1 135 = .ok (.goto (-29), 3) := by decide +kernel
theorem dX12_told_138 : decode mX12_told.2.1 138 = .ok (.iload_n 3, 1) := by decide +kernel
theorem dX12_told_139 : decode mX12_told.2.1 139 = .ok (.ireturn, 1) := by decide +kernel
theorem dX12_told_140 : decode mX12_told.2.1 140 = .ok (.iload_n 2, 1) := by decide +kernel
theorem dX12_told_141 : decode mX12_told.2.1 141 = .ok (.bipush 100, 2) := by decide +kernel
theorem dX12_told_143 : decode mX12_told.2.1 143 = .ok (.sipush 163, 3) := by decide +kernel
theorem dX12_told_146 : decode mX12_told.2.1 146 = .ok (.invokestatic 162, 3) := by decide +kernel
theorem dX12_told_149 : decode mX12_told.2.1 149 = .ok (.ifCond .eq 24, 3) := by decide +kernel
theorem dX12_told_152 : decode mX12_told.2.1 152 = .ok (.aload_n 0, 1) := by decide +kernel
theorem dX12_told_153 : decode mX12_told.2.1 153 = .ok (.getfield 7, 3) := by decide +kernel
theorem dX12_told_156 : decode mX12_told.2.1 156 = .ok (.sipush 992, 3) := by decide +kernel
theorem dX12_told_159 : decode mX12_told.2.1 159 = .ok (.bipush 64, 2) := by decide +kernel
theorem dX12_told_161 : decode mX12_told.2.1 161 = .ok (.iload_n 1, 1) := by decide +kernel
theorem dX12_told_162 : decode mX12_told.2.1 162 = .ok (.imul, 1) := by decide +kernel
theorem dX12_told_163 : decode mX12_told.2.1 163 = .ok (.iadd, 1) := by decide +kernel
theorem dX12_told_164 : decode mX12_told.2.1 164 = .ok (.iload_n 2, 1) := by decide +kernel
theorem dX12_told_165 : decode mX12_told.2.1 165 = .ok (.iadd, 1) := by decide +kernel
theorem dX12_told_166 : decode mX12_told.2.1 166 = .ok (.bipush 100, 2) := by decide +kernel
theorem dX12_told_168 : decode mX12_told.2.1 168 = .ok (.isub, 1) := by decide +kernel
theorem dX12_told_169 : decode mX12_told.2.1 169 = .ok (.iaload, 1) := by decide +kernel
theorem dX12_told_170 : decode mX12_told.2.1 170 = .ok (.goto 5, 3) := by decide +kernel
theorem dX12_told_173 : decode mX12_told.2.1 173 = .ok (.bipush (-2), 2) := by decide +kernel
theorem dX12_told_175 : decode mX12_told.2.1 175 = .ok (.ireturn, 1) := by decide +kernel
theorem dX12_job_0 : decode mX12_job.2.1 0 = .ok (.iload_n 1, 1) := by decide +kernel
theorem dX12_job_1 : decode mX12_job.2.1 1 = .ok (.iconst 0, 1) := by decide +kernel
theorem dX12_job_2 : decode mX12_job.2.1 2 = .ok (.aload_n 0, 1) := by decide +kernel
theorem dX12_job_3 : decode mX12_job.2.1 3 = .ok (.getfield 219, 3) := by decide +kernel
theorem dX12_job_6 : decode mX12_job.2.1 6 = .ok (.iconst 1, 1) := by decide +kernel
theorem dX12_job_7 : decode mX12_job.2.1 7 = .ok (.isub, 1) := by decide +kernel
theorem dX12_job_8 : decode mX12_job.2.1 8 = .ok (.invokestatic 162, 3) := by decide +kernel
theorem dX12_job_11 : decode mX12_job.2.1 11 = .ok (.ifCond .ne 6, 3) := by decide +kernel
theorem dX12_job_14 : decode mX12_job.2.1 14 = .ok (.bipush (-2), 2) := by decide +kernel
theorem dX12_job_16 : decode mX12_job.2.1 16 = .ok (.ireturn, 1) := by decide +kernel
theorem dX12_job_17 : decode mX12_job.2.1 17 = .ok (.iload_n 2, 1) := by decide +kernel
theorem dX12_job_18 : decode mX12_job.2.1 18 = .ok (.tableswitch 77 0 4 #[34, 41, 48, 55, 66], 34) := by decide +kernel
theorem dX12_job_52 : decode mX12_job.2.1 52 = .ok (.aload_n 0, 1) := by decide +kernel
theorem dX12_job_53 : decode mX12_job.2.1 53 = .ok (.getfield 55, 3) := by decide +kernel
theorem dX12_job_56 : decode mX12_job.2.1 56 = .ok (.iload_n 1, 1) := by decide +kernel
theorem dX12_job_57 : decode mX12_job.2.1 57 = .ok (.iaload, 1) := by decide +kernel
theorem dX12_job_58 : decode mX12_job.2.1 58 = .ok (.ireturn, 1) := by decide +kernel
theorem dX12_job_59 : decode mX12_job.2.1 59 = .ok (.aload_n 0, 1) := by decide +kernel
theorem dX12_job_60 : decode mX12_job.2.1 60 = .ok (.getfield 58, 3) := by decide +kernel
theorem dX12_job_63 : decode mX12_job.2.1 63 = .ok (.iload_n 1, 1) := by decide +kernel
theorem dX12_job_64 : decode mX12_job.2.1 64 = .ok (.iaload, 1) := by decide +kernel
theorem dX12_job_65 : decode mX12_job.2.1 65 = .ok (.ireturn, 1) := by decide +kernel
theorem dX12_job_66 : decode mX12_job.2.1 66 = .ok (.aload_n 0, 1) := by decide +kernel
theorem dX12_job_67 : decode mX12_job.2.1 67 = .ok (.getfield 61, 3) := by decide +kernel
theorem dX12_job_70 : decode mX12_job.2.1 70 = .ok (.iload_n 1, 1) := by decide +kernel
theorem dX12_job_71 : decode mX12_job.2.1 71 = .ok (.iaload, 1) := by decide +kernel
theorem dX12_job_72 : decode mX12_job.2.1 72 = .ok (.ireturn, 1) := by decide +kernel
theorem dX12_job_73 : decode mX12_job.2.1 73 = .ok (.aload_n 0, 1) := by decide +kernel
theorem dX12_job_74 : decode mX12_job.2.1 74 = .ok (.getfield 7, 3) := by decide +kernel
theorem dX12_job_77 : decode mX12_job.2.1 77 = .ok (.sipush 1504, 3) := by decide +kernel
theorem dX12_job_80 : decode mX12_job.2.1 80 = .ok (.iload_n 1, 1) := by decide +kernel
theorem dX12_job_81 : decode mX12_job.2.1 81 = .ok (.iadd, 1) := by decide +kernel
theorem dX12_job_82 : decode mX12_job.2.1 82 = .ok (.iaload, 1) := by decide +kernel
theorem dX12_job_83 : decode mX12_job.2.1 83 = .ok (.ireturn, 1) := by decide +kernel
theorem dX12_job_84 : decode mX12_job.2.1 84 = .ok (.aload_n 0, 1) := by decide +kernel
theorem dX12_job_85 : decode mX12_job.2.1 85 = .ok (.getfield 7, 3) := by decide +kernel
theorem dX12_job_88 : decode mX12_job.2.1 88 = .ok (.sipush 1564, 3) := by decide +kernel
theorem dX12_job_91 : decode mX12_job.2.1 91 = .ok (.iload_n 1, 1) := by decide +kernel
theorem dX12_job_92 : decode mX12_job.2.1 92 = .ok (.iadd, 1) := by decide +kernel
theorem dX12_job_93 : decode mX12_job.2.1 93 = .ok (.iaload, 1) := by decide +kernel
theorem dX12_job_94 : decode mX12_job.2.1 94 = .ok (.ireturn, 1) := by decide +kernel
theorem dX12_job_95 : decode mX12_job.2.1 95 = .ok (.bipush (-2), 2) := by decide +kernel
theorem dX12_job_97 : decode mX12_job.2.1 97 = .ok (.ireturn, 1) := by decide +kernel
theorem dX12_water_0 : decode mX12_water.2.1 0 = .ok (.lconst 0, 1) := by decide +kernel
theorem dX12_water_1 : decode mX12_water.2.1 1 = .ok (.lstore_n 2, 1) := by decide +kernel
theorem dX12_water_2 : decode mX12_water.2.1 2 = .ok (.iconst 0, 1) := by decide +kernel
theorem dX12_water_3 : decode mX12_water.2.1 3 = .ok (.istore 4, 2) := by decide +kernel
theorem dX12_water_5 : decode mX12_water.2.1 5 = .ok (.iload 4, 2) := by decide +kernel
theorem dX12_water_7 : decode mX12_water.2.1 7 = .ok (.bipush 64, 2) := by decide +kernel
theorem dX12_water_9 : decode mX12_water.2.1 9 = .ok (.if_icmp .ge 23, 3) := by decide +kernel
theorem dX12_water_12 : decode mX12_water.2.1 12 = .ok (.lload_n 2, 1) := by decide +kernel
theorem dX12_water_13 : decode mX12_water.2.1 13 = .ok (.aload_n 0, 1) := by decide +kernel
theorem dX12_water_14 : decode mX12_water.2.1 14 = .ok (.getfield 7, 3) := by decide +kernel
theorem dX12_water_17 : decode mX12_water.2.1 17 = .ok (.bipush 64, 2) := by decide +kernel
theorem dX12_water_19 : decode mX12_water.2.1 19 = .ok (.iload 4, 2) := by decide +kernel
theorem dX12_water_21 : decode mX12_water.2.1 21 = .ok (.iadd, 1) := by decide +kernel
theorem dX12_water_22 : decode mX12_water.2.1 22 = .ok (.iaload, 1) := by decide +kernel
theorem dX12_water_23 : decode mX12_water.2.1 23 = .ok (.i2l, 1) := by decide +kernel
theorem dX12_water_24 : decode mX12_water.2.1 24 = .ok (.ladd, 1) := by decide +kernel
theorem dX12_water_25 : decode mX12_water.2.1 25 = .ok (.lstore_n 2, 1) := by decide +kernel
theorem dX12_water_26 : decode mX12_water.2.1 26 = .ok (.iinc 4 1, 3) := by decide +kernel
theorem dX12_water_29 : decode mX12_water.2.1 29 = .ok (.goto (-24), 3) := by decide +kernel
theorem dX12_water_32 : decode mX12_water.2.1 32 = .ok (.iload_n 1, 1) := by decide +kernel
theorem dX12_water_33 : decode mX12_water.2.1 33 = .ok (.ifCond .ne 7, 3) := by decide +kernel
theorem dX12_water_36 : decode mX12_water.2.1 36 = .ok (.lload_n 2, 1) := by decide +kernel
theorem dX12_water_37 : decode mX12_water.2.1 37 = .ok (.goto 30, 3) := by decide +kernel
theorem dX12_water_40 : decode mX12_water.2.1 40 = .ok (.iload_n 1, 1) := by decide +kernel
theorem dX12_water_41 : decode mX12_water.2.1 41 = .ok (.iconst 1, 1) := by decide +kernel
theorem dX12_water_42 : decode mX12_water.2.1 42 = .ok (.if_icmp .ne 10, 3) := by decide +kernel
theorem dX12_water_45 : decode mX12_water.2.1 45 = .ok (.aload_n 0, 1) := by decide +kernel
theorem dX12_water_46 : decode mX12_water.2.1 46 = .ok (.getfield 155, 3) := by decide +kernel
theorem dX12_water_49 : decode mX12_water.2.1 49 = .ok (.goto 18, 3) := by decide +kernel
theorem dX12_water_52 : decode mX12_water.2.1 52 = .ok (.iload_n 1, 1) := by decide +kernel
theorem dX12_water_53 : decode mX12_water.2.1 53 = .ok (.iconst 2, 1) := by decide +kernel
theorem dX12_water_54 : decode mX12_water.2.1 54 = .ok (.if_icmp .ne 10, 3) := by decide +kernel
theorem dX12_water_57 : decode mX12_water.2.1 57 = .ok (.aload_n 0, 1) := by decide +kernel
theorem dX12_water_58 : decode mX12_water.2.1 58 = .ok (.getfield 159, 3) := by decide +kernel
theorem dX12_water_61 : decode mX12_water.2.1 61 = .ok (.goto 6, 3) := by decide +kernel
theorem dX12_water_64 : decode mX12_water.2.1 64 = .ok (.ldc2_w 328, 3) := by decide +kernel
theorem dX12_water_67 : decode mX12_water.2.1 67 = .ok (.lreturn, 1) := by decide +kernel
theorem dX12_spreads_0 : decode mX12_spreads.2.1 0 = .ok (.iconst 1, 1) := by decide +kernel
theorem dX12_spreads_1 : decode mX12_spreads.2.1 1 = .ok (.istore_n 3, 1) := by decide +kernel
theorem dX12_spreads_2 : decode mX12_spreads.2.1 2 = .ok (.iload_n 3, 1) := by decide +kernel
theorem dX12_spreads_3 : decode mX12_spreads.2.1 3 = .ok (.iload_n 1, 1) := by decide +kernel
theorem dX12_spreads_4 : decode mX12_spreads.2.1 4 = .ok (.if_icmp .gt 112, 3) := by decide +kernel
theorem dX12_spreads_7 : decode mX12_spreads.2.1 7 = .ok (.iconst 0, 1) := by decide +kernel
theorem dX12_spreads_8 : decode mX12_spreads.2.1 8 = .ok (.istore 4, 2) := by decide +kernel
theorem dX12_spreads_10 : decode mX12_spreads.2.1 10 = .ok (.iload 4, 2) := by decide +kernel
theorem dX12_spreads_12 : decode mX12_spreads.2.1 12 = .ok (.bipush 64, 2) := by decide +kernel
theorem dX12_spreads_14 : decode mX12_spreads.2.1 14 = .ok (.if_icmp .ge 96, 3) := by decide +kernel
theorem dX12_spreads_17 : decode mX12_spreads.2.1 17 = .ok (.aload_n 0, 1) := by decide +kernel
theorem dX12_spreads_18 : decode mX12_spreads.2.1 18 = .ok (.getfield 100, 3) := by decide +kernel
theorem dX12_spreads_21 : decode mX12_spreads.2.1 21 = .ok (.iload 4, 2) := by decide +kernel
theorem dX12_spreads_23 : decode mX12_spreads.2.1 23 = .ok (.iaload, 1) := by decide +kernel
theorem dX12_spreads_24 : decode mX12_spreads.2.1 24 = .ok (.iconst (-1), 1) := by decide +kernel
theorem dX12_spreads_25 : decode mX12_spreads.2.1 25 = .ok (.if_icmp .ne 79, 3) := by decide +kernel
theorem dX12_spreads_28 : decode mX12_spreads.2.1 28 = .ok (.aload_n 0, 1) := by decide +kernel
theorem dX12_spreads_29 : decode mX12_spreads.2.1 29 = .ok (.getfield 7, 3) := by decide +kernel
theorem dX12_spreads_32 : decode mX12_spreads.2.1 32 = .ok (.sipush 192, 3) := by decide +kernel
theorem dX12_spreads_35 : decode mX12_spreads.2.1 35 = .ok (.iload 4, 2) := by decide +kernel
theorem dX12_spreads_37 : decode mX12_spreads.2.1 37 = .ok (.iadd, 1) := by decide +kernel
theorem dX12_spreads_38 : decode mX12_spreads.2.1 38 = .ok (.iaload, 1) := by decide +kernel
theorem dX12_spreads_39 : decode mX12_spreads.2.1 39 = .ok (.ifCond .eq 65, 3) := by decide +kernel
theorem dX12_spreads_42 : decode mX12_spreads.2.1 42 = .ok (.aload_n 2, 1) := by decide +kernel
theorem dX12_spreads_43 : decode mX12_spreads.2.1 43 = .ok (.iload 4, 2) := by decide +kernel
theorem dX12_spreads_45 : decode mX12_spreads.2.1 45 = .ok (.baload, 1) := by decide +kernel
theorem dX12_spreads_46 : decode mX12_spreads.2.1 46 = .ok (.ifCond .eq 6, 3) := by decide +kernel
theorem dX12_spreads_49 : decode mX12_spreads.2.1 49 = .ok (.goto 55, 3) := by decide +kernel
theorem dX12_spreads_52 : decode mX12_spreads.2.1 52 = .ok (.iconst 0, 1) := by decide +kernel
theorem dX12_spreads_53 : decode mX12_spreads.2.1 53 = .ok (.istore 5, 2) := by decide +kernel
theorem dX12_spreads_55 : decode mX12_spreads.2.1 55 = .ok (.iload 5, 2) := by decide +kernel
theorem dX12_spreads_57 : decode mX12_spreads.2.1 57 = .ok (.iconst 4, 1) := by decide +kernel
theorem dX12_spreads_58 : decode mX12_spreads.2.1 58 = .ok (.if_icmp .ge 46, 3) := by decide +kernel
theorem dX12_spreads_61 : decode mX12_spreads.2.1 61 = .ok (.iload 4, 2) := by decide +kernel
theorem dX12_spreads_63 : decode mX12_spreads.2.1 63 = .ok (.iload 5, 2) := by decide +kernel
theorem dX12_spreads_65 : decode mX12_spreads.2.1 65 = .ok (.invokestatic 257, 3) := by decide +kernel
theorem dX12_spreads_68 : decode mX12_spreads.2.1 68 = .ok (.iconst (-1), 1) := by decide +kernel
theorem dX12_spreads_69 : decode mX12_spreads.2.1 69 = .ok (.if_icmp .eq 29, 3) := by decide +kernel
theorem dX12_spreads_72 : decode mX12_spreads.2.1 72 = .ok (.aload_n 0, 1) := by decide +kernel
theorem dX12_spreads_73 : decode mX12_spreads.2.1 73 = .ok (.getfield 100, 3) := by decide +kernel
theorem dX12_spreads_76 : decode mX12_spreads.2.1 76 = .ok (.iload 4, 2) := by decide +kernel
theorem dX12_spreads_78 : decode mX12_spreads.2.1 78 = .ok (.iload 5, 2) := by decide +kernel
theorem dX12_spreads_80 : decode mX12_spreads.2.1 80 = .ok (.invokestatic 257, 3) := by decide +kernel
theorem dX12_spreads_83 : decode mX12_spreads.2.1 83 = .ok (.iaload, 1) := by decide +kernel
theorem dX12_spreads_84 : decode mX12_spreads.2.1 84 = .ok (.iload_n 3, 1) := by decide +kernel
theorem dX12_spreads_85 : decode mX12_spreads.2.1 85 = .ok (.iconst 1, 1) := by decide +kernel
theorem dX12_spreads_86 : decode mX12_spreads.2.1 86 = .ok (.isub, 1) := by decide +kernel
theorem dX12_spreads_87 : decode mX12_spreads.2.1 87 = .ok (.if_icmp .ne 11, 3) := by decide +kernel
theorem dX12_spreads_90 : decode mX12_spreads.2.1 90 = .ok (.aload_n 0, 1) := by decide +kernel
theorem dX12_spreads_91 : decode mX12_spreads.2.1 91 = .ok (.getfield 100, 3) := by decide +kernel
theorem dX12_spreads_94 : decode mX12_spreads.2.1 94 = .ok (.iload 4, 2) := by decide +kernel
theorem dX12_spreads_96 : decode mX12_spreads.2.1 96 = .ok (.iload_n 3, 1) := by decide +kernel
theorem dX12_spreads_97 : decode mX12_spreads.2.1 97 = .ok (.iastore, 1) := by decide +kernel
theorem dX12_spreads_98 : decode mX12_spreads.2.1 98 = .ok (.iinc 5 1, 3) := by decide +kernel
theorem dX12_spreads_101 : decode mX12_spreads.2.1 101 = .ok (.goto (-46), 3) := by decide +kernel
theorem dX12_spreads_104 : decode mX12_spreads.2.1 104 = .ok (.iinc 4 1, 3) := by decide +kernel
theorem dX12_spreads_107 : decode mX12_spreads.2.1 107 = .ok (.goto (-97), 3) := by decide +kernel
theorem dX12_spreads_110 : decode mX12_spreads.2.1 110 = .ok (.iinc 3 1, 3) := by decide +kernel
theorem dX12_spreads_113 : decode mX12_spreads.2.1 113 = .ok (.goto (-111), 3) := by decide +kernel
theorem dX12_spreads_116 : decode mX12_spreads.2.1 116 = .ok (.return_, 1) := by decide +kernel
def w_X12_begins_p24_b (post : am_I → am_N → Prop) (zk24 : Int32 → am_I → am_N → Prop) (l1 : Int32) (M : am_I) (N : am_N) : Prop :=
  ((64 ≤ l1 → post (am_u (am_u (am_u (am_u M (3, 0, 1) 1626 500) (3, 0, 1) 1627 200) (3, 0, 1) 1628 30) (3, 0, 1) 1629 3) (am_ul (am_ul N (3, 0, 0) 2 0) (3, 0, 0) 3 0)) ∧ (¬ 64 ≤ l1 → vp_in (576 + l1) 1635 ∧ zk24 (l1 + 1) (am_u M (3, 0, 1) (576 + l1).toNatClampNeg 1) N))
noncomputable def w_X12_begins_p24 (post : am_I → am_N → Prop) (n : Nat) : Int32 → am_I → am_N → Prop :=
  Nat.rec (motive := fun _ => Int32 → am_I → am_N → Prop) (fun _ _ _ => False) (fun _ zk => w_X12_begins_p24_b post zk) n
theorem w_X12_begins_p24_s (post : am_I → am_N → Prop) (n : Nat) (l1 : Int32) (M : am_I) (N : am_N) : w_X12_begins_p24 post (n + 1) l1 M N = w_X12_begins_p24_b post (w_X12_begins_p24 post n) l1 M N := rfl
set_option maxRecDepth 10000 in
theorem k_X12_begins_p24 {d : Nat} {dm : List am_C} (h3 : am_d3 dm) {post : am_I → am_N → Prop} : ∀ (n : Nat) (l1 : Int32) (M : am_I) (N : am_N), w_X12_begins_p24 post n l1 M N → jg (d + 1) mX12_begins dm 24 [(0, .inr (.inr (3, 0, 0))), (1, .inl l1)] [] M N (am_pv post) := by
  intro n
  induction n with
  | zero => intro l1 M N h; exact h.elim
  | succ n zih =>
    intro l1 M N h
    replace h : w_X12_begins_p24_b post (w_X12_begins_p24 post n) l1 M N := h
    refine j_iload_n 1 dX12_begins_24 rfl ?_
    refine j_bipush (v := 64) dX12_begins_25 (by decide) ?_
    refine j_icmp_ge (tgt := 47) dX12_begins_27 (by decide) (fun hc => ?_) (fun hc => ?_)
    · replace h := h.1 hc
      refine j_aload_n 0 dX12_begins_47 rfl ?_
      refine j_getR (b := (3, 0, 1)) dX12_begins_48 fsRX12_7 (h3 0 (by decide)) rfl rfl ?_
      refine j_sipush (v := 1626) dX12_begins_51 (by decide) ?_
      refine j_sipush (v := 500) dX12_begins_54 (by decide) ?_
      refine j_iast dX12_begins_57 (h3 1 (by decide)) rfl (by unfold vp_in; decide) ?_
      refine j_aload_n 0 dX12_begins_58 rfl ?_
      refine j_getR (b := (3, 0, 1)) dX12_begins_59 fsRX12_7 (h3 0 (by decide)) rfl rfl ?_
      refine j_sipush (v := 1627) dX12_begins_62 (by decide) ?_
      refine j_sipush (v := 200) dX12_begins_65 (by decide) ?_
      refine j_iast dX12_begins_68 (h3 1 (by decide)) rfl (by unfold vp_in; decide) ?_
      refine j_aload_n 0 dX12_begins_69 rfl ?_
      refine j_getR (b := (3, 0, 1)) dX12_begins_70 fsRX12_7 (h3 0 (by decide)) rfl rfl ?_
      refine j_sipush (v := 1628) dX12_begins_73 (by decide) ?_
      refine j_bipush (v := 30) dX12_begins_76 (by decide) ?_
      refine j_iast dX12_begins_78 (h3 1 (by decide)) rfl (by unfold vp_in; decide) ?_
      refine j_aload_n 0 dX12_begins_79 rfl ?_
      refine j_getR (b := (3, 0, 1)) dX12_begins_80 fsRX12_7 (h3 0 (by decide)) rfl rfl ?_
      refine j_sipush (v := 1629) dX12_begins_83 (by decide) ?_
      refine j_iconst (v := 3) dX12_begins_86 (by decide) ?_
      refine j_iast dX12_begins_87 (h3 1 (by decide)) rfl (by unfold vp_in; decide) ?_
      refine j_aload_n 0 dX12_begins_88 rfl ?_
      refine j_lconst (v := 0) dX12_begins_89 (by decide) ?_
      refine j_putL dX12_begins_90 fwRX12_155 (h3 0 (by decide)) rfl ?_
      refine j_aload_n 0 dX12_begins_93 rfl ?_
      refine j_lconst (v := 0) dX12_begins_94 (by decide) ?_
      refine j_putL dX12_begins_95 fwRX12_159 (h3 0 (by decide)) rfl ?_
      exact j_vret dX12_begins_98 rfl ⟨rfl, h⟩
    · replace h := h.2 hc
      refine j_aload_n 0 dX12_begins_30 rfl ?_
      refine j_getR (b := (3, 0, 1)) dX12_begins_31 fsRX12_7 (h3 0 (by decide)) rfl rfl ?_
      refine j_sipush (v := 576) dX12_begins_34 (by decide) ?_
      refine j_iload_n 1 dX12_begins_37 rfl ?_
      refine j_iadd dX12_begins_38 ?_
      refine j_iconst (v := 1) dX12_begins_39 (by decide) ?_
      obtain ⟨hq, h⟩ := h
      refine j_iast dX12_begins_40 (h3 1 (by decide)) rfl hq ?_
      refine j_iinc 1 dX12_begins_41 rfl rfl (by decide) rfl ?_
      refine j_goto (tgt := 24) dX12_begins_44 (by decide) ?_
      refine j_sub [1, 0] rfl ?_
      exact zih _ _ _ h
def w_X12_begins_p2_b (post : am_I → am_N → Prop) (zk2 : Int32 → am_I → am_N → Prop) (l1 : Int32) (M : am_I) (N : am_N) : Prop :=
  ((1635 ≤ l1 → ∃ n, w_X12_begins_p24 post n 0 M N) ∧ (¬ 1635 ≤ l1 → vp_in l1 1635 ∧ zk2 (l1 + 1) (am_u M (3, 0, 1) l1.toNatClampNeg 0) N))
noncomputable def w_X12_begins_p2 (post : am_I → am_N → Prop) (n : Nat) : Int32 → am_I → am_N → Prop :=
  Nat.rec (motive := fun _ => Int32 → am_I → am_N → Prop) (fun _ _ _ => False) (fun _ zk => w_X12_begins_p2_b post zk) n
theorem w_X12_begins_p2_s (post : am_I → am_N → Prop) (n : Nat) (l1 : Int32) (M : am_I) (N : am_N) : w_X12_begins_p2 post (n + 1) l1 M N = w_X12_begins_p2_b post (w_X12_begins_p2 post n) l1 M N := rfl
set_option maxRecDepth 10000 in
theorem k_X12_begins_p2 {d : Nat} {dm : List am_C} (h3 : am_d3 dm) {post : am_I → am_N → Prop} : ∀ (n : Nat) (l1 : Int32) (M : am_I) (N : am_N), w_X12_begins_p2 post n l1 M N → jg (d + 1) mX12_begins dm 2 [(0, .inr (.inr (3, 0, 0))), (1, .inl l1)] [] M N (am_pv post) := by
  intro n
  induction n with
  | zero => intro l1 M N h; exact h.elim
  | succ n zih =>
    intro l1 M N h
    replace h : w_X12_begins_p2_b post (w_X12_begins_p2 post n) l1 M N := h
    refine j_iload_n 1 dX12_begins_2 rfl ?_
    refine j_sipush (v := 1635) dX12_begins_3 (by decide) ?_
    refine j_icmp_ge (tgt := 22) dX12_begins_6 (by decide) (fun hc => ?_) (fun hc => ?_)
    · replace h := h.1 hc
      refine j_iconst (v := 0) dX12_begins_22 (by decide) ?_
      refine j_istore_n dX12_begins_23 (by decide) rfl ?_
      refine j_sub [1, 0] rfl ?_
      obtain ⟨n, h⟩ := h
      exact k_X12_begins_p24 h3 n _ _ _ h
    · replace h := h.2 hc
      refine j_aload_n 0 dX12_begins_9 rfl ?_
      refine j_getR (b := (3, 0, 1)) dX12_begins_10 fsRX12_7 (h3 0 (by decide)) rfl rfl ?_
      refine j_iload_n 1 dX12_begins_13 rfl ?_
      refine j_iconst (v := 0) dX12_begins_14 (by decide) ?_
      obtain ⟨hq, h⟩ := h
      refine j_iast dX12_begins_15 (h3 1 (by decide)) rfl hq ?_
      refine j_iinc 1 dX12_begins_16 rfl rfl (by decide) rfl ?_
      refine j_goto (tgt := 2) dX12_begins_19 (by decide) ?_
      refine j_sub [1, 0] rfl ?_
      exact zih _ _ _ h
def w_X12_begins (M : am_I) (N : am_N) (post : am_I → am_N → Prop) : Prop :=
  ∃ n, w_X12_begins_p2 post n 0 M N
set_option maxRecDepth 10000 in
theorem k_X12_begins {d : Nat} {dm : List am_C} (h3 : am_d3 dm) {M : am_I} {N : am_N} {post : am_I → am_N → Prop} (h : w_X12_begins M N post) : jg (d + 1) mX12_begins dm 0 [(0, .inr (.inr (3, 0, 0)))] [] M N (am_pv post) := by
  refine j_iconst (v := 0) dX12_begins_0 (by decide) ?_
  refine j_istore_n dX12_begins_1 (by decide) rfl ?_
  refine j_sub [1, 0] rfl ?_
  obtain ⟨n, h⟩ := h
  exact k_X12_begins_p2 h3 n _ _ _ h
def w_X12_isIn (a1 : Int32) (a2 : Int32) (a3 : Int32) (M : am_I) (N : am_N) (post : Int32 → am_I → am_N → Prop) : Prop :=
  ((a1 < a2 → post 0 M N) ∧ (¬ a1 < a2 → ((a3 < a1 → post 0 M N) ∧ (¬ a3 < a1 → post 1 M N))))
set_option maxRecDepth 10000 in
theorem k_X12_isIn {d : Nat} {dm : List am_C}  {a1 : Int32} {a2 : Int32} {a3 : Int32} {M : am_I} {N : am_N} {post : Int32 → am_I → am_N → Prop} (h : w_X12_isIn a1 a2 a3 M N post) : jg (d + 1) mX12_isIn dm 0 [(0, .inl a1), (1, .inl a2), (2, .inl a3)] [] M N (am_pi post) := by
  refine j_iload_n 0 dX12_isIn_0 rfl ?_
  refine j_iload_n 1 dX12_isIn_1 rfl ?_
  refine j_icmp_lt (tgt := 14) dX12_isIn_2 (by decide) (fun hc => ?_) (fun hc => ?_)
  · replace h := h.1 hc
    refine j_iconst (v := 0) dX12_isIn_14 (by decide) ?_
    exact j_zret dX12_isIn_15 rfl (Or.inl rfl) ⟨_, rfl, h⟩
  · replace h := h.2 hc
    refine j_iload_n 0 dX12_isIn_5 rfl ?_
    refine j_iload_n 2 dX12_isIn_6 rfl ?_
    refine j_icmp_gt (tgt := 14) dX12_isIn_7 (by decide) (fun hc => ?_) (fun hc => ?_)
    · replace h := h.1 hc
      refine j_iconst (v := 0) dX12_isIn_14 (by decide) ?_
      exact j_zret dX12_isIn_15 rfl (Or.inl rfl) ⟨_, rfl, h⟩
    · replace h := h.2 hc
      refine j_iconst (v := 1) dX12_isIn_10 (by decide) ?_
      refine j_goto (tgt := 15) dX12_isIn_11 (by decide) ?_
      exact j_zret dX12_isIn_15 rfl (Or.inr rfl) ⟨_, rfl, h⟩
def w_X12_one (a1 : Int32) (M : am_I) (N : am_N) (post : Int32 → am_I → am_N → Prop) : Prop :=
  ((a1 = 0 → post 0 M N) ∧ (¬ a1 = 0 → post 1 M N))
set_option maxRecDepth 10000 in
theorem k_X12_one {d : Nat} {dm : List am_C}  {a1 : Int32} {M : am_I} {N : am_N} {post : Int32 → am_I → am_N → Prop} (h : w_X12_one a1 M N post) : jg (d + 1) mX12_one dm 0 [(0, .inl a1)] [] M N (am_pi post) := by
  refine j_iload_n 0 dX12_one_0 rfl ?_
  refine j_if_eq (tgt := 8) dX12_one_1 (by decide) (fun hc => ?_) (fun hc => ?_)
  · replace h := h.1 hc
    refine j_iconst (v := 0) dX12_one_8 (by decide) ?_
    exact j_iret dX12_one_9 rfl ⟨_, rfl, h⟩
  · replace h := h.2 hc
    refine j_iconst (v := 1) dX12_one_4 (by decide) ?_
    refine j_goto (tgt := 9) dX12_one_5 (by decide) ?_
    exact j_iret dX12_one_9 rfl ⟨_, rfl, h⟩
def w_X12_isCell (a1 : Int32) (M : am_I) (N : am_N) (post : Int32 → am_I → am_N → Prop) : Prop :=
  w_X12_isIn a1 0 63 M N (fun zr1 zM2 zN3 => (zr1 = 0 ∨ zr1 = 1) ∧ post zr1 zM2 zN3)
set_option maxRecDepth 10000 in
theorem k_X12_isCell {d : Nat} {dm : List am_C}  {a1 : Int32} {M : am_I} {N : am_N} {post : Int32 → am_I → am_N → Prop} (h : w_X12_isCell a1 M N post) : jg (d + 2) mX12_isCell dm 0 [(0, .inl a1)] [] M N (am_pi post) := by
  refine j_iload_n 0 dX12_isCell_0 rfl ?_
  refine j_iconst (v := 0) dX12_isCell_1 (by decide) ?_
  refine j_bipush (v := 63) dX12_isCell_2 (by decide) ?_
  refine j_invS (As := [.inl a1, .inl 0, .inl 63]) dX12_isCell_4 msRX12_162 mbX12_isIn rfl rfl (Nat.le_of_ble_eq_true rfl) (Nat.le_of_ble_eq_true rfl) (by omega) (k_X12_isIn (d := d + 0)  h) ?_
  rintro _ zM2 zN3 ⟨zr1, rfl, h⟩
  exact j_zret dX12_isCell_7 rfl h.1 ⟨_, rfl, h.2⟩
def w_X12_beside (a1 : Int32) (a2 : Int32) (M : am_I) (N : am_N) (post : Int32 → am_I → am_N → Prop) : Prop :=
  ((a2 = 0 → ((a1 < 8 → post (-1) M N) ∧ (¬ a1 < 8 → post (a1 - 8) M N))) ∧ (a2 = 1 → (((am_rem a1 8) ≤ 0 → post (-1) M N) ∧ (¬ (am_rem a1 8) ≤ 0 → post (a1 - 1) M N))) ∧ (a2 = 2 → ((7 ≤ (am_rem a1 8) → post (-1) M N) ∧ (¬ 7 ≤ (am_rem a1 8) → post (a1 + 1) M N))) ∧ (¬ a2 = 0 → ¬ a2 = 1 → ¬ a2 = 2 → ((56 ≤ a1 → post (-1) M N) ∧ (¬ 56 ≤ a1 → post (a1 + 8) M N))))
set_option maxRecDepth 10000 in
theorem k_X12_beside {d : Nat} {dm : List am_C}  {a1 : Int32} {a2 : Int32} {M : am_I} {N : am_N} {post : Int32 → am_I → am_N → Prop} (h : w_X12_beside a1 a2 M N post) : jg (d + 1) mX12_beside dm 0 [(0, .inl a1), (1, .inl a2)] [] M N (am_pi post) := by
  refine j_iload_n 1 dX12_beside_0 rfl ?_
  by_cases hs0 : a2 = 0
  · replace h := h.1 hs0
    refine j_tabK (k := 0) (tgt := 28) (off := 27) dX12_beside_1 hs0 (by decide) (by decide) (by decide) (by decide) ?_
    refine j_iload_n 0 dX12_beside_28 rfl ?_
    refine j_bipush (v := 8) dX12_beside_29 (by decide) ?_
    refine j_icmp_lt (tgt := 41) dX12_beside_31 (by decide) (fun hc => ?_) (fun hc => ?_)
    · replace h := h.1 hc
      refine j_iconst (v := (-1)) dX12_beside_41 (by decide) ?_
      exact j_iret dX12_beside_42 rfl ⟨_, rfl, h⟩
    · replace h := h.2 hc
      refine j_iload_n 0 dX12_beside_34 rfl ?_
      refine j_bipush (v := 8) dX12_beside_35 (by decide) ?_
      refine j_isub dX12_beside_37 ?_
      refine j_goto (tgt := 42) dX12_beside_38 (by decide) ?_
      exact j_iret dX12_beside_42 rfl ⟨_, rfl, h⟩
  by_cases hs1 : a2 = 1
  · replace h := h.2.1 hs1
    refine j_tabK (k := 1) (tgt := 43) (off := 42) dX12_beside_1 hs1 (by decide) (by decide) (by decide) (by decide) ?_
    refine j_iload_n 0 dX12_beside_43 rfl ?_
    refine j_bipush (v := 8) dX12_beside_44 (by decide) ?_
    refine j_irem dX12_beside_46 (by decide) ?_
    refine j_if_le (tgt := 56) dX12_beside_47 (by decide) (fun hc => ?_) (fun hc => ?_)
    · replace h := h.1 hc
      refine j_iconst (v := (-1)) dX12_beside_56 (by decide) ?_
      exact j_iret dX12_beside_57 rfl ⟨_, rfl, h⟩
    · replace h := h.2 hc
      refine j_iload_n 0 dX12_beside_50 rfl ?_
      refine j_iconst (v := 1) dX12_beside_51 (by decide) ?_
      refine j_isub dX12_beside_52 ?_
      refine j_goto (tgt := 57) dX12_beside_53 (by decide) ?_
      exact j_iret dX12_beside_57 rfl ⟨_, rfl, h⟩
  by_cases hs2 : a2 = 2
  · replace h := h.2.2.1 hs2
    refine j_tabK (k := 2) (tgt := 58) (off := 57) dX12_beside_1 hs2 (by decide) (by decide) (by decide) (by decide) ?_
    refine j_iload_n 0 dX12_beside_58 rfl ?_
    refine j_bipush (v := 8) dX12_beside_59 (by decide) ?_
    refine j_irem dX12_beside_61 (by decide) ?_
    refine j_bipush (v := 7) dX12_beside_62 (by decide) ?_
    refine j_icmp_ge (tgt := 73) dX12_beside_64 (by decide) (fun hc => ?_) (fun hc => ?_)
    · replace h := h.1 hc
      refine j_iconst (v := (-1)) dX12_beside_73 (by decide) ?_
      exact j_iret dX12_beside_74 rfl ⟨_, rfl, h⟩
    · replace h := h.2 hc
      refine j_iload_n 0 dX12_beside_67 rfl ?_
      refine j_iconst (v := 1) dX12_beside_68 (by decide) ?_
      refine j_iadd dX12_beside_69 ?_
      refine j_goto (tgt := 74) dX12_beside_70 (by decide) ?_
      exact j_iret dX12_beside_74 rfl ⟨_, rfl, h⟩
  replace h := h.2.2.2 hs0 hs1 hs2
  refine j_tableOut (tgt := 75) dX12_beside_1 (am_sw0 (n := 2) (fun k hk => match k, hk with | 0, _ => hs0 | 1, _ => hs1 | 2, _ => hs2 | k + 3, hk => absurd hk (by omega))) (by decide) ?_
  refine j_iload_n 0 dX12_beside_75 rfl ?_
  refine j_bipush (v := 56) dX12_beside_76 (by decide) ?_
  refine j_icmp_ge (tgt := 88) dX12_beside_78 (by decide) (fun hc => ?_) (fun hc => ?_)
  · replace h := h.1 hc
    refine j_iconst (v := (-1)) dX12_beside_88 (by decide) ?_
    exact j_iret dX12_beside_89 rfl ⟨_, rfl, h⟩
  · replace h := h.2 hc
    refine j_iload_n 0 dX12_beside_81 rfl ?_
    refine j_bipush (v := 8) dX12_beside_82 (by decide) ?_
    refine j_iadd dX12_beside_84 ?_
    refine j_goto (tgt := 89) dX12_beside_85 (by decide) ?_
    exact j_iret dX12_beside_89 rfl ⟨_, rfl, h⟩
def w_X12_isBut (a1 : Int32) (a2 : Int32) (M : am_I) (N : am_N) (post : Int32 → am_I → am_N → Prop) : Prop :=
  ((¬ (M (3, 0, 0) 30) = a1 → post 0 M N) ∧ ((M (3, 0, 0) 30) = a1 → ((¬ (M (3, 0, 0) 31) = a2 → post 0 M N) ∧ ((M (3, 0, 0) 31) = a2 → post 1 M N))))
set_option maxRecDepth 10000 in
theorem k_X12_isBut {d : Nat} {dm : List am_C} (h3 : am_d3 dm) {a1 : Int32} {a2 : Int32} {M : am_I} {N : am_N} {post : Int32 → am_I → am_N → Prop} (h : w_X12_isBut a1 a2 M N post) : jg (d + 1) mX12_isBut dm 0 [(0, .inr (.inr (3, 0, 0))), (1, .inl a1), (2, .inl a2)] [] M N (am_pi post) := by
  refine j_aload_n 0 dX12_isBut_0 rfl ?_
  refine j_getI dX12_isBut_1 fsRX12_77 (h3 0 (by decide)) rfl ?_
  refine j_iload_n 1 dX12_isBut_4 rfl ?_
  refine j_icmp_ne (tgt := 20) dX12_isBut_5 (by decide) (fun hc => ?_) (fun hc => ?_)
  · replace h := h.1 hc
    refine j_iconst (v := 0) dX12_isBut_20 (by decide) ?_
    exact j_zret dX12_isBut_21 rfl (Or.inl rfl) ⟨_, rfl, h⟩
  · replace h := h.2 hc
    refine j_aload_n 0 dX12_isBut_8 rfl ?_
    refine j_getI dX12_isBut_9 fsRX12_172 (h3 0 (by decide)) rfl ?_
    refine j_iload_n 2 dX12_isBut_12 rfl ?_
    refine j_icmp_ne (tgt := 20) dX12_isBut_13 (by decide) (fun hc => ?_) (fun hc => ?_)
    · replace h := h.1 hc
      refine j_iconst (v := 0) dX12_isBut_20 (by decide) ?_
      exact j_zret dX12_isBut_21 rfl (Or.inl rfl) ⟨_, rfl, h⟩
    · replace h := h.2 hc
      refine j_iconst (v := 1) dX12_isBut_16 (by decide) ?_
      refine j_goto (tgt := 21) dX12_isBut_17 (by decide) ?_
      exact j_zret dX12_isBut_21 rfl (Or.inr rfl) ⟨_, rfl, h⟩
def w_X12_comes (a1 : Int32) (M : am_I) (N : am_N) (post : am_I → am_N → Prop) : Prop :=
  vp_in a1 8 ∧ vp_in (960 + a1) 1635 ∧ vp_in a1 8 ∧ vp_in (968 + a1) 1635 ∧ vp_in (984 + a1) 1635 ∧ post (am_u (am_u (am_u (am_u M (3, 0, 1) (960 + a1).toNatClampNeg (M (3, 0, 14) a1.toNatClampNeg)) (3, 0, 1) (968 + a1).toNatClampNeg ((am_u M (3, 0, 1) (960 + a1).toNatClampNeg (M (3, 0, 14) a1.toNatClampNeg)) (3, 0, 15) a1.toNatClampNeg)) (3, 0, 1) (984 + a1).toNatClampNeg (-1)) (3, 0, 1) 1631 (((am_u (am_u (am_u M (3, 0, 1) (960 + a1).toNatClampNeg (M (3, 0, 14) a1.toNatClampNeg)) (3, 0, 1) (968 + a1).toNatClampNeg ((am_u M (3, 0, 1) (960 + a1).toNatClampNeg (M (3, 0, 14) a1.toNatClampNeg)) (3, 0, 15) a1.toNatClampNeg)) (3, 0, 1) (984 + a1).toNatClampNeg (-1)) (3, 0, 1) 1631) + 1)) N
set_option maxRecDepth 10000 in
theorem k_X12_comes {d : Nat} {dm : List am_C} (h3 : am_d3 dm) {a1 : Int32} {M : am_I} {N : am_N} {post : am_I → am_N → Prop} (h : w_X12_comes a1 M N post) : jg (d + 1) mX12_comes dm 0 [(0, .inr (.inr (3, 0, 0))), (1, .inl a1)] [] M N (am_pv post) := by
  refine j_aload_n 0 dX12_comes_0 rfl ?_
  refine j_getR (b := (3, 0, 1)) dX12_comes_1 fsRX12_7 (h3 0 (by decide)) rfl rfl ?_
  refine j_sipush (v := 960) dX12_comes_4 (by decide) ?_
  refine j_iload_n 1 dX12_comes_7 rfl ?_
  refine j_iadd dX12_comes_8 ?_
  refine j_aload_n 0 dX12_comes_9 rfl ?_
  refine j_getR (b := (3, 0, 14)) dX12_comes_10 fsRX12_49 (h3 0 (by decide)) rfl rfl ?_
  refine j_iload_n 1 dX12_comes_13 rfl ?_
  obtain ⟨hq, h⟩ := h
  refine j_iald dX12_comes_14 (h3 14 (by decide)) rfl hq ?_
  obtain ⟨hq, h⟩ := h
  refine j_iast dX12_comes_15 (h3 1 (by decide)) rfl hq ?_
  refine j_aload_n 0 dX12_comes_16 rfl ?_
  refine j_getR (b := (3, 0, 1)) dX12_comes_17 fsRX12_7 (h3 0 (by decide)) rfl rfl ?_
  refine j_sipush (v := 968) dX12_comes_20 (by decide) ?_
  refine j_iload_n 1 dX12_comes_23 rfl ?_
  refine j_iadd dX12_comes_24 ?_
  refine j_aload_n 0 dX12_comes_25 rfl ?_
  refine j_getR (b := (3, 0, 15)) dX12_comes_26 fsRX12_52 (h3 0 (by decide)) rfl rfl ?_
  refine j_iload_n 1 dX12_comes_29 rfl ?_
  obtain ⟨hq, h⟩ := h
  refine j_iald dX12_comes_30 (h3 15 (by decide)) rfl hq ?_
  obtain ⟨hq, h⟩ := h
  refine j_iast dX12_comes_31 (h3 1 (by decide)) rfl hq ?_
  refine j_aload_n 0 dX12_comes_32 rfl ?_
  refine j_getR (b := (3, 0, 1)) dX12_comes_33 fsRX12_7 (h3 0 (by decide)) rfl rfl ?_
  refine j_sipush (v := 984) dX12_comes_36 (by decide) ?_
  refine j_iload_n 1 dX12_comes_39 rfl ?_
  refine j_iadd dX12_comes_40 ?_
  refine j_iconst (v := (-1)) dX12_comes_41 (by decide) ?_
  obtain ⟨hq, h⟩ := h
  refine j_iast dX12_comes_42 (h3 1 (by decide)) rfl hq ?_
  refine j_aload_n 0 dX12_comes_43 rfl ?_
  refine j_getR (b := (3, 0, 1)) dX12_comes_44 fsRX12_7 (h3 0 (by decide)) rfl rfl ?_
  refine j_sipush (v := 1631) dX12_comes_47 (by decide) ?_
  refine j_dup2 dX12_comes_50 rfl rfl ?_
  refine j_iald dX12_comes_51 (h3 1 (by decide)) rfl (by unfold vp_in; decide) ?_
  refine j_iconst (v := 1) dX12_comes_52 (by decide) ?_
  refine j_iadd dX12_comes_53 ?_
  refine j_iast dX12_comes_54 (h3 1 (by decide)) rfl (by unfold vp_in; decide) ?_
  exact j_vret dX12_comes_55 rfl ⟨rfl, h⟩
def w_X12_charged (a1 : Int32) (M : am_I) (N : am_N) (post : am_I → am_N → Prop) : Prop :=
  w_X12_isBut 1 a1 M N (fun zr1 zM2 zN3 => ((¬ zr1 = 0 → post zM2 zN3) ∧ (zr1 = 0 → vp_in (976 + a1) 1635 ∧ (((zM2 (3, 0, 1) (976 + a1).toNatClampNeg) = 5 → vp_in a1 8 ∧ vp_in (968 + a1) 1635 ∧ vp_in (976 + a1) 1635 ∧ post (am_u (am_u zM2 (3, 0, 1) (968 + a1).toNatClampNeg (zM2 (3, 0, 15) a1.toNatClampNeg)) (3, 0, 1) (976 + a1).toNatClampNeg 0) zN3) ∧ (¬ (zM2 (3, 0, 1) (976 + a1).toNatClampNeg) = 5 → post zM2 zN3)))))
set_option maxRecDepth 10000 in
theorem k_X12_charged {d : Nat} {dm : List am_C} (h3 : am_d3 dm) {a1 : Int32} {M : am_I} {N : am_N} {post : am_I → am_N → Prop} (h : w_X12_charged a1 M N post) : jg (d + 2) mX12_charged dm 0 [(0, .inr (.inr (3, 0, 0))), (1, .inl a1)] [] M N (am_pv post) := by
  refine j_aload_n 0 dX12_charged_0 rfl ?_
  refine j_iconst (v := 1) dX12_charged_1 (by decide) ?_
  refine j_iload_n 1 dX12_charged_2 rfl ?_
  refine j_invV (As := [.inl 1, .inl a1]) dX12_charged_3 msRX12_188 mbX12_isBut rfl rfl (Nat.le_of_ble_eq_true rfl) (Nat.le_of_ble_eq_true rfl) (by omega) (h3 0 (by decide)) rfl rfl (k_X12_isBut (d := d + 0) h3 h) ?_
  rintro _ zM2 zN3 ⟨zr1, rfl, h⟩
  refine j_if_ne (tgt := 23) dX12_charged_6 (by decide) (fun hc => ?_) (fun hc => ?_)
  · replace h := h.1 hc
    exact j_vret dX12_charged_23 rfl ⟨rfl, h⟩
  · replace h := h.2 hc
    refine j_aload_n 0 dX12_charged_9 rfl ?_
    refine j_getR (b := (3, 0, 1)) dX12_charged_10 fsRX12_7 (h3 0 (by decide)) rfl rfl ?_
    refine j_sipush (v := 976) dX12_charged_13 (by decide) ?_
    refine j_iload_n 1 dX12_charged_16 rfl ?_
    refine j_iadd dX12_charged_17 ?_
    obtain ⟨hq, h⟩ := h
    refine j_iald dX12_charged_18 (h3 1 (by decide)) rfl hq ?_
    refine j_iconst (v := 5) dX12_charged_19 (by decide) ?_
    refine j_icmp_eq (tgt := 24) dX12_charged_20 (by decide) (fun hc => ?_) (fun hc => ?_)
    · replace h := h.1 hc
      refine j_aload_n 0 dX12_charged_24 rfl ?_
      refine j_getR (b := (3, 0, 1)) dX12_charged_25 fsRX12_7 (h3 0 (by decide)) rfl rfl ?_
      refine j_sipush (v := 968) dX12_charged_28 (by decide) ?_
      refine j_iload_n 1 dX12_charged_31 rfl ?_
      refine j_iadd dX12_charged_32 ?_
      refine j_aload_n 0 dX12_charged_33 rfl ?_
      refine j_getR (b := (3, 0, 15)) dX12_charged_34 fsRX12_52 (h3 0 (by decide)) rfl rfl ?_
      refine j_iload_n 1 dX12_charged_37 rfl ?_
      obtain ⟨hq, h⟩ := h
      refine j_iald dX12_charged_38 (h3 15 (by decide)) rfl hq ?_
      obtain ⟨hq, h⟩ := h
      refine j_iast dX12_charged_39 (h3 1 (by decide)) rfl hq ?_
      refine j_aload_n 0 dX12_charged_40 rfl ?_
      refine j_getR (b := (3, 0, 1)) dX12_charged_41 fsRX12_7 (h3 0 (by decide)) rfl rfl ?_
      refine j_sipush (v := 976) dX12_charged_44 (by decide) ?_
      refine j_iload_n 1 dX12_charged_47 rfl ?_
      refine j_iadd dX12_charged_48 ?_
      refine j_iconst (v := 0) dX12_charged_49 (by decide) ?_
      obtain ⟨hq, h⟩ := h
      refine j_iast dX12_charged_50 (h3 1 (by decide)) rfl hq ?_
      exact j_vret dX12_charged_51 rfl ⟨rfl, h⟩
    · replace h := h.2 hc
      exact j_vret dX12_charged_23 rfl ⟨rfl, h⟩
def w_X12_isSet_p9 (post : Int32 → am_I → am_N → Prop) (l1 : Int32) (M : am_I) (N : am_N) : Prop :=
  w_X12_isIn l1 1 9999 M N (fun zr1 zM2 zN3 => (zr1 = 0 ∨ zr1 = 1) ∧ post zr1 zM2 zN3)
set_option maxRecDepth 10000 in
theorem k_X12_isSet_p9 {d : Nat} {dm : List am_C}  {post : Int32 → am_I → am_N → Prop} (l1 : Int32) (M : am_I) (N : am_N) (h : w_X12_isSet_p9 post l1 M N) : jg (d + 2) mX12_isSet dm 9 [(1, .inl l1)] [] M N (am_pi post) := by
  refine j_iload_n 0 dX12_isSet_9 rfl ?_
  refine j_iconst (v := 1) dX12_isSet_10 (by decide) ?_
  refine j_sipush (v := 9999) dX12_isSet_11 (by decide) ?_
  refine j_invS (As := [.inl l1, .inl 1, .inl 9999]) dX12_isSet_14 msRX12_162 mbX12_isIn rfl rfl (Nat.le_of_ble_eq_true rfl) (Nat.le_of_ble_eq_true rfl) (by omega) (k_X12_isIn (d := d + 0)  h) ?_
  rintro _ zM2 zN3 ⟨zr1, rfl, h⟩
  refine j_goto (tgt := 55) dX12_isSet_17 (by decide) ?_
  exact j_zret dX12_isSet_55 rfl h.1 ⟨_, rfl, h.2⟩
def w_X12_isSet (a1 : Int32) (a2 : Int32) (M : am_I) (N : am_N) (post : Int32 → am_I → am_N → Prop) : Prop :=
  ((a1 = 0 → w_X12_isSet_p9 post a2 M N) ∧ (¬ a1 = 0 → ((¬ a1 = 1 → ((¬ a1 = 2 → ((¬ a1 = 3 → post 0 M N) ∧ (a1 = 3 → w_X12_isIn a2 0 14 M N (fun zr1 zM2 zN3 => ((zr1 = 0 → post 0 zM2 zN3) ∧ (¬ zr1 = 0 → post 1 zM2 zN3)))))) ∧ (a1 = 2 → w_X12_isIn a2 0 100 M N (fun zr4 zM5 zN6 => (zr4 = 0 ∨ zr4 = 1) ∧ post zr4 zM5 zN6)))) ∧ (a1 = 1 → w_X12_isSet_p9 post a2 M N))))
set_option maxRecDepth 10000 in
theorem k_X12_isSet {d : Nat} {dm : List am_C}  {a1 : Int32} {a2 : Int32} {M : am_I} {N : am_N} {post : Int32 → am_I → am_N → Prop} (h : w_X12_isSet a1 a2 M N post) : jg (d + 2) mX12_isSet dm 0 [(0, .inl a1), (1, .inl a2)] [] M N (am_pi post) := by
  refine j_iload_n 0 dX12_isSet_0 rfl ?_
  refine j_if_eq (tgt := 9) dX12_isSet_1 (by decide) (fun hc => ?_) (fun hc => ?_)
  · replace h := h.1 hc
    refine j_sub [1] rfl ?_
    exact k_X12_isSet_p9  _ _ _ h
  · replace h := h.2 hc
    refine j_iload_n 0 dX12_isSet_4 rfl ?_
    refine j_iconst (v := 1) dX12_isSet_5 (by decide) ?_
    refine j_icmp_ne (tgt := 20) dX12_isSet_6 (by decide) (fun hc => ?_) (fun hc => ?_)
    · replace h := h.1 hc
      refine j_iload_n 0 dX12_isSet_20 rfl ?_
      refine j_iconst (v := 2) dX12_isSet_21 (by decide) ?_
      refine j_icmp_ne (tgt := 35) dX12_isSet_22 (by decide) (fun hc => ?_) (fun hc => ?_)
      · replace h := h.1 hc
        refine j_iload_n 0 dX12_isSet_35 rfl ?_
        refine j_iconst (v := 3) dX12_isSet_36 (by decide) ?_
        refine j_icmp_ne (tgt := 54) dX12_isSet_37 (by decide) (fun hc => ?_) (fun hc => ?_)
        · replace h := h.1 hc
          refine j_iconst (v := 0) dX12_isSet_54 (by decide) ?_
          exact j_zret dX12_isSet_55 rfl (Or.inl rfl) ⟨_, rfl, h⟩
        · replace h := h.2 hc
          refine j_iload_n 1 dX12_isSet_40 rfl ?_
          refine j_iconst (v := 0) dX12_isSet_41 (by decide) ?_
          refine j_bipush (v := 14) dX12_isSet_42 (by decide) ?_
          refine j_invS (As := [.inl a2, .inl 0, .inl 14]) dX12_isSet_44 msRX12_162 mbX12_isIn rfl rfl (Nat.le_of_ble_eq_true rfl) (Nat.le_of_ble_eq_true rfl) (by omega) (k_X12_isIn (d := d + 0)  h) ?_
          rintro _ zM2 zN3 ⟨zr1, rfl, h⟩
          refine j_if_eq (tgt := 54) dX12_isSet_47 (by decide) (fun hc => ?_) (fun hc => ?_)
          · replace h := h.1 hc
            refine j_iconst (v := 0) dX12_isSet_54 (by decide) ?_
            exact j_zret dX12_isSet_55 rfl (Or.inl rfl) ⟨_, rfl, h⟩
          · replace h := h.2 hc
            refine j_iconst (v := 1) dX12_isSet_50 (by decide) ?_
            refine j_goto (tgt := 55) dX12_isSet_51 (by decide) ?_
            exact j_zret dX12_isSet_55 rfl (Or.inr rfl) ⟨_, rfl, h⟩
      · replace h := h.2 hc
        refine j_iload_n 1 dX12_isSet_25 rfl ?_
        refine j_iconst (v := 0) dX12_isSet_26 (by decide) ?_
        refine j_bipush (v := 100) dX12_isSet_27 (by decide) ?_
        refine j_invS (As := [.inl a2, .inl 0, .inl 100]) dX12_isSet_29 msRX12_162 mbX12_isIn rfl rfl (Nat.le_of_ble_eq_true rfl) (Nat.le_of_ble_eq_true rfl) (by omega) (k_X12_isIn (d := d + 0)  h) ?_
        rintro _ zM5 zN6 ⟨zr4, rfl, h⟩
        refine j_goto (tgt := 55) dX12_isSet_32 (by decide) ?_
        exact j_zret dX12_isSet_55 rfl h.1 ⟨_, rfl, h.2⟩
    · replace h := h.2 hc
      refine j_sub [1] rfl ?_
      exact k_X12_isSet_p9  _ _ _ h
def w_X12_isCart (a1 : Int32) (M : am_I) (N : am_N) (post : Int32 → am_I → am_N → Prop) : Prop :=
  w_X12_isIn a1 0 ((M (3, 0, 0) 11) - 1) M N (fun zr1 zM2 zN3 => (zr1 = 0 ∨ zr1 = 1) ∧ post zr1 zM2 zN3)
set_option maxRecDepth 10000 in
theorem k_X12_isCart {d : Nat} {dm : List am_C} (h3 : am_d3 dm) {a1 : Int32} {M : am_I} {N : am_N} {post : Int32 → am_I → am_N → Prop} (h : w_X12_isCart a1 M N post) : jg (d + 2) mX12_isCart dm 0 [(0, .inr (.inr (3, 0, 0))), (1, .inl a1)] [] M N (am_pi post) := by
  refine j_iload_n 1 dX12_isCart_0 rfl ?_
  refine j_iconst (v := 0) dX12_isCart_1 (by decide) ?_
  refine j_aload_n 0 dX12_isCart_2 rfl ?_
  refine j_getI dX12_isCart_3 fsRX12_213 (h3 0 (by decide)) rfl ?_
  refine j_iconst (v := 1) dX12_isCart_6 (by decide) ?_
  refine j_isub dX12_isCart_7 ?_
  refine j_invS (As := [.inl a1, .inl 0, .inl ((M (3, 0, 0) 11) - 1)]) dX12_isCart_8 msRX12_162 mbX12_isIn rfl rfl (Nat.le_of_ble_eq_true rfl) (Nat.le_of_ble_eq_true rfl) (by omega) (k_X12_isIn (d := d + 0)  h) ?_
  rintro _ zM2 zN3 ⟨zr1, rfl, h⟩
  exact j_zret dX12_isCart_11 rfl h.1 ⟨_, rfl, h.2⟩
def w_X12_has (a1 : Int32) (M : am_I) (N : am_N) (post : Int32 → am_I → am_N → Prop) : Prop :=
  w_X12_isCell a1 M N (fun zr1 zM2 zN3 => ((zr1 = 0 → post 0 zM2 zN3) ∧ (¬ zr1 = 0 → vp_in (192 + a1) 1635 ∧ ((¬ (zM2 (3, 0, 1) (192 + a1).toNatClampNeg) = 1 → post 0 zM2 zN3) ∧ ((zM2 (3, 0, 1) (192 + a1).toNatClampNeg) = 1 → post 1 zM2 zN3)))))
set_option maxRecDepth 10000 in
theorem k_X12_has {d : Nat} {dm : List am_C} (h3 : am_d3 dm) {a1 : Int32} {M : am_I} {N : am_N} {post : Int32 → am_I → am_N → Prop} (h : w_X12_has a1 M N post) : jg (d + 3) mX12_has dm 0 [(0, .inr (.inr (3, 0, 0))), (1, .inl a1)] [] M N (am_pi post) := by
  refine j_iload_n 1 dX12_has_0 rfl ?_
  refine j_invS (As := [.inl a1]) dX12_has_1 msRX12_199 mbX12_isCell rfl rfl (Nat.le_of_ble_eq_true rfl) (Nat.le_of_ble_eq_true rfl) (by omega) (k_X12_isCell (d := d + 0)  h) ?_
  rintro _ zM2 zN3 ⟨zr1, rfl, h⟩
  refine j_if_eq (tgt := 25) dX12_has_4 (by decide) (fun hc => ?_) (fun hc => ?_)
  · replace h := h.1 hc
    refine j_iconst (v := 0) dX12_has_25 (by decide) ?_
    exact j_zret dX12_has_26 rfl (Or.inl rfl) ⟨_, rfl, h⟩
  · replace h := h.2 hc
    refine j_aload_n 0 dX12_has_7 rfl ?_
    refine j_getR (b := (3, 0, 1)) dX12_has_8 fsRX12_7 (h3 0 (by decide)) rfl rfl ?_
    refine j_sipush (v := 192) dX12_has_11 (by decide) ?_
    refine j_iload_n 1 dX12_has_14 rfl ?_
    refine j_iadd dX12_has_15 ?_
    obtain ⟨hq, h⟩ := h
    refine j_iald dX12_has_16 (h3 1 (by decide)) rfl hq ?_
    refine j_iconst (v := 1) dX12_has_17 (by decide) ?_
    refine j_icmp_ne (tgt := 25) dX12_has_18 (by decide) (fun hc => ?_) (fun hc => ?_)
    · replace h := h.1 hc
      refine j_iconst (v := 0) dX12_has_25 (by decide) ?_
      exact j_zret dX12_has_26 rfl (Or.inl rfl) ⟨_, rfl, h⟩
    · replace h := h.2 hc
      refine j_iconst (v := 1) dX12_has_21 (by decide) ?_
      refine j_goto (tgt := 26) dX12_has_22 (by decide) ?_
      exact j_zret dX12_has_26 rfl (Or.inr rfl) ⟨_, rfl, h⟩
def w_X12_grows_p33_b (post : am_I → am_N → Prop) (zk33 : Int32 → Int32 → Int32 → am_I → am_N → Prop) (l1 : Int32) (l2 : Int32) (l3 : Int32) (M : am_I) (N : am_N) : Prop :=
  ((5 ≤ l3 → vp_in (192 + l1) 1635 ∧ vp_in (256 + l1) 1635 ∧ vp_in (320 + l1) 1635 ∧ vp_in (384 + l1) 1635 ∧ vp_in (448 + l1) 1635 ∧ post (am_u (am_u (am_u (am_u (am_u M (3, 0, 1) (192 + l1).toNatClampNeg 1) (3, 0, 1) (256 + l1).toNatClampNeg 0) (3, 0, 1) (320 + l1).toNatClampNeg 0) (3, 0, 1) (384 + l1).toNatClampNeg 0) (3, 0, 1) (448 + l1).toNatClampNeg 0) N) ∧ (¬ 5 ≤ l3 → (((M (3, 0, 1) 1634) ≤ l3 → vp_in ((640 + (5 * l1)) + l3) 1635 ∧ zk33 l1 l2 (l3 + 1) (am_u M (3, 0, 1) ((640 + (5 * l1)) + l3).toNatClampNeg 0) N) ∧ (¬ (M (3, 0, 1) 1634) ≤ l3 → vp_in l3 5 ∧ ¬ l2.toInt64 = 0 ∧ vp_in ((640 + (5 * l1)) + l3) 1635 ∧ zk33 l1 l2 (l3 + 1) (am_u M (3, 0, 1) ((640 + (5 * l1)) + l3).toNatClampNeg (((((M (3, 0, 20) l3.toNatClampNeg).toInt64) * 1000000000) / l2.toInt64).toInt32)) N))))
noncomputable def w_X12_grows_p33 (post : am_I → am_N → Prop) (n : Nat) : Int32 → Int32 → Int32 → am_I → am_N → Prop :=
  Nat.rec (motive := fun _ => Int32 → Int32 → Int32 → am_I → am_N → Prop) (fun _ _ _ _ _ => False) (fun _ zk => w_X12_grows_p33_b post zk) n
theorem w_X12_grows_p33_s (post : am_I → am_N → Prop) (n : Nat) (l1 : Int32) (l2 : Int32) (l3 : Int32) (M : am_I) (N : am_N) : w_X12_grows_p33 post (n + 1) l1 l2 l3 M N = w_X12_grows_p33_b post (w_X12_grows_p33 post n) l1 l2 l3 M N := rfl
set_option maxRecDepth 10000 in
theorem k_X12_grows_p33 {d : Nat} {dm : List am_C} (h3 : am_d3 dm) {post : am_I → am_N → Prop} : ∀ (n : Nat) (l1 : Int32) (l2 : Int32) (l3 : Int32) (M : am_I) (N : am_N), w_X12_grows_p33 post n l1 l2 l3 M N → jg (d + 1) mX12_grows dm 33 [(0, .inr (.inr (3, 0, 0))), (1, .inl l1), (2, .inl l2), (3, .inl l3)] [] M N (am_pv post) := by
  intro n
  induction n with
  | zero => intro l1 l2 l3 M N h; exact h.elim
  | succ n zih =>
    intro l1 l2 l3 M N h
    replace h : w_X12_grows_p33_b post (w_X12_grows_p33 post n) l1 l2 l3 M N := h
    refine j_iload_n 3 dX12_grows_33 rfl ?_
    refine j_iconst (v := 5) dX12_grows_34 (by decide) ?_
    refine j_icmp_ge (tgt := 89) dX12_grows_35 (by decide) (fun hc => ?_) (fun hc => ?_)
    · replace h := h.1 hc
      refine j_aload_n 0 dX12_grows_89 rfl ?_
      refine j_getR (b := (3, 0, 1)) dX12_grows_90 fsRX12_7 (h3 0 (by decide)) rfl rfl ?_
      refine j_sipush (v := 192) dX12_grows_93 (by decide) ?_
      refine j_iload_n 1 dX12_grows_96 rfl ?_
      refine j_iadd dX12_grows_97 ?_
      refine j_iconst (v := 1) dX12_grows_98 (by decide) ?_
      obtain ⟨hq, h⟩ := h
      refine j_iast dX12_grows_99 (h3 1 (by decide)) rfl hq ?_
      refine j_aload_n 0 dX12_grows_100 rfl ?_
      refine j_getR (b := (3, 0, 1)) dX12_grows_101 fsRX12_7 (h3 0 (by decide)) rfl rfl ?_
      refine j_sipush (v := 256) dX12_grows_104 (by decide) ?_
      refine j_iload_n 1 dX12_grows_107 rfl ?_
      refine j_iadd dX12_grows_108 ?_
      refine j_iconst (v := 0) dX12_grows_109 (by decide) ?_
      obtain ⟨hq, h⟩ := h
      refine j_iast dX12_grows_110 (h3 1 (by decide)) rfl hq ?_
      refine j_aload_n 0 dX12_grows_111 rfl ?_
      refine j_getR (b := (3, 0, 1)) dX12_grows_112 fsRX12_7 (h3 0 (by decide)) rfl rfl ?_
      refine j_sipush (v := 320) dX12_grows_115 (by decide) ?_
      refine j_iload_n 1 dX12_grows_118 rfl ?_
      refine j_iadd dX12_grows_119 ?_
      refine j_iconst (v := 0) dX12_grows_120 (by decide) ?_
      obtain ⟨hq, h⟩ := h
      refine j_iast dX12_grows_121 (h3 1 (by decide)) rfl hq ?_
      refine j_aload_n 0 dX12_grows_122 rfl ?_
      refine j_getR (b := (3, 0, 1)) dX12_grows_123 fsRX12_7 (h3 0 (by decide)) rfl rfl ?_
      refine j_sipush (v := 384) dX12_grows_126 (by decide) ?_
      refine j_iload_n 1 dX12_grows_129 rfl ?_
      refine j_iadd dX12_grows_130 ?_
      refine j_iconst (v := 0) dX12_grows_131 (by decide) ?_
      obtain ⟨hq, h⟩ := h
      refine j_iast dX12_grows_132 (h3 1 (by decide)) rfl hq ?_
      refine j_aload_n 0 dX12_grows_133 rfl ?_
      refine j_getR (b := (3, 0, 1)) dX12_grows_134 fsRX12_7 (h3 0 (by decide)) rfl rfl ?_
      refine j_sipush (v := 448) dX12_grows_137 (by decide) ?_
      refine j_iload_n 1 dX12_grows_140 rfl ?_
      refine j_iadd dX12_grows_141 ?_
      refine j_iconst (v := 0) dX12_grows_142 (by decide) ?_
      obtain ⟨hq, h⟩ := h
      refine j_iast dX12_grows_143 (h3 1 (by decide)) rfl hq ?_
      exact j_vret dX12_grows_144 rfl ⟨rfl, h⟩
    · replace h := h.2 hc
      refine j_aload_n 0 dX12_grows_38 rfl ?_
      refine j_getR (b := (3, 0, 1)) dX12_grows_39 fsRX12_7 (h3 0 (by decide)) rfl rfl ?_
      refine j_sipush (v := 640) dX12_grows_42 (by decide) ?_
      refine j_iconst (v := 5) dX12_grows_45 (by decide) ?_
      refine j_iload_n 1 dX12_grows_46 rfl ?_
      refine j_imul dX12_grows_47 ?_
      refine j_iadd dX12_grows_48 ?_
      refine j_iload_n 3 dX12_grows_49 rfl ?_
      refine j_iadd dX12_grows_50 ?_
      refine j_iload_n 3 dX12_grows_51 rfl ?_
      refine j_aload_n 0 dX12_grows_52 rfl ?_
      refine j_getR (b := (3, 0, 1)) dX12_grows_53 fsRX12_7 (h3 0 (by decide)) rfl rfl ?_
      refine j_sipush (v := 1634) dX12_grows_56 (by decide) ?_
      refine j_iald dX12_grows_59 (h3 1 (by decide)) rfl (by unfold vp_in; decide) ?_
      refine j_icmp_ge (tgt := 81) dX12_grows_60 (by decide) (fun hc => ?_) (fun hc => ?_)
      · replace h := h.1 hc
        refine j_iconst (v := 0) dX12_grows_81 (by decide) ?_
        obtain ⟨hq, h⟩ := h
        refine j_iast dX12_grows_82 (h3 1 (by decide)) rfl hq ?_
        refine j_iinc 3 dX12_grows_83 rfl rfl (by decide) rfl ?_
        refine j_goto (tgt := 33) dX12_grows_86 (by decide) ?_
        refine j_sub [1, 2, 3, 0] rfl ?_
        exact zih _ _ _ _ _ h
      · replace h := h.2 hc
        refine j_aload_n 0 dX12_grows_63 rfl ?_
        refine j_getR (b := (3, 0, 20)) dX12_grows_64 fsRX12_67 (h3 0 (by decide)) rfl rfl ?_
        refine j_iload_n 3 dX12_grows_67 rfl ?_
        obtain ⟨hq, h⟩ := h
        refine j_iald dX12_grows_68 (h3 20 (by decide)) rfl hq ?_
        refine j_i2l dX12_grows_69 ?_
        refine j_ldc2 (v := 1000000000) dX12_grows_70 cw_1580 ?_
        refine j_lmul dX12_grows_73 ?_
        refine j_iload_n 2 dX12_grows_74 rfl ?_
        refine j_i2l dX12_grows_75 ?_
        obtain ⟨hq, h⟩ := h
        refine j_ldiv dX12_grows_76 hq ?_
        refine j_l2i dX12_grows_77 ?_
        refine j_goto (tgt := 82) dX12_grows_78 (by decide) ?_
        obtain ⟨hq, h⟩ := h
        refine j_iast dX12_grows_82 (h3 1 (by decide)) rfl hq ?_
        refine j_iinc 3 dX12_grows_83 rfl rfl (by decide) rfl ?_
        refine j_goto (tgt := 33) dX12_grows_86 (by decide) ?_
        refine j_sub [1, 2, 3, 0] rfl ?_
        exact zih _ _ _ _ _ h
def w_X12_grows_p4_b (post : am_I → am_N → Prop) (zk4 : Int32 → Int32 → Int32 → am_I → am_N → Prop) (l1 : Int32) (l2 : Int32) (l3 : Int32) (M : am_I) (N : am_N) : Prop :=
  (((M (3, 0, 1) 1634) ≤ l3 → ∃ n, w_X12_grows_p33 post n l1 l2 0 M N) ∧ (¬ (M (3, 0, 1) 1634) ≤ l3 → vp_in l3 5 ∧ ∀ zv1 : Int32, zv1 = l2 + (M (3, 0, 20) l3.toNatClampNeg) → zk4 l1 zv1 (l3 + 1) M N))
noncomputable def w_X12_grows_p4 (post : am_I → am_N → Prop) (n : Nat) : Int32 → Int32 → Int32 → am_I → am_N → Prop :=
  Nat.rec (motive := fun _ => Int32 → Int32 → Int32 → am_I → am_N → Prop) (fun _ _ _ _ _ => False) (fun _ zk => w_X12_grows_p4_b post zk) n
theorem w_X12_grows_p4_s (post : am_I → am_N → Prop) (n : Nat) (l1 : Int32) (l2 : Int32) (l3 : Int32) (M : am_I) (N : am_N) : w_X12_grows_p4 post (n + 1) l1 l2 l3 M N = w_X12_grows_p4_b post (w_X12_grows_p4 post n) l1 l2 l3 M N := rfl
set_option maxRecDepth 10000 in
theorem k_X12_grows_p4 {d : Nat} {dm : List am_C} (h3 : am_d3 dm) {post : am_I → am_N → Prop} : ∀ (n : Nat) (l1 : Int32) (l2 : Int32) (l3 : Int32) (M : am_I) (N : am_N), w_X12_grows_p4 post n l1 l2 l3 M N → jg (d + 1) mX12_grows dm 4 [(0, .inr (.inr (3, 0, 0))), (1, .inl l1), (2, .inl l2), (3, .inl l3)] [] M N (am_pv post) := by
  intro n
  induction n with
  | zero => intro l1 l2 l3 M N h; exact h.elim
  | succ n zih =>
    intro l1 l2 l3 M N h
    replace h : w_X12_grows_p4_b post (w_X12_grows_p4 post n) l1 l2 l3 M N := h
    refine j_iload_n 3 dX12_grows_4 rfl ?_
    refine j_aload_n 0 dX12_grows_5 rfl ?_
    refine j_getR (b := (3, 0, 1)) dX12_grows_6 fsRX12_7 (h3 0 (by decide)) rfl rfl ?_
    refine j_sipush (v := 1634) dX12_grows_9 (by decide) ?_
    refine j_iald dX12_grows_12 (h3 1 (by decide)) rfl (by unfold vp_in; decide) ?_
    refine j_icmp_ge (tgt := 31) dX12_grows_13 (by decide) (fun hc => ?_) (fun hc => ?_)
    · replace h := h.1 hc
      refine j_iconst (v := 0) dX12_grows_31 (by decide) ?_
      refine j_istore_n dX12_grows_32 (by decide) rfl ?_
      refine j_sub [1, 2, 3, 0] rfl ?_
      obtain ⟨n, h⟩ := h
      exact k_X12_grows_p33 h3 n _ _ _ _ _ h
    · replace h := h.2 hc
      refine j_iload_n 2 dX12_grows_16 rfl ?_
      refine j_aload_n 0 dX12_grows_17 rfl ?_
      refine j_getR (b := (3, 0, 20)) dX12_grows_18 fsRX12_67 (h3 0 (by decide)) rfl rfl ?_
      refine j_iload_n 3 dX12_grows_21 rfl ?_
      obtain ⟨hq, h⟩ := h
      refine j_iald dX12_grows_22 (h3 20 (by decide)) rfl hq ?_
      refine j_iadd dX12_grows_23 ?_
      refine j_topi (fun zv1 hzv1 => ?_)
      replace h := h zv1 hzv1
      refine j_istore_n dX12_grows_24 (by decide) rfl ?_
      refine j_iinc 3 dX12_grows_25 rfl rfl (by decide) rfl ?_
      refine j_goto (tgt := 4) dX12_grows_28 (by decide) ?_
      refine j_sub [2, 3, 1, 0] rfl ?_
      exact zih _ _ _ _ _ h
def w_X12_grows (a1 : Int32) (M : am_I) (N : am_N) (post : am_I → am_N → Prop) : Prop :=
  ∃ n, w_X12_grows_p4 post n a1 0 0 M N
set_option maxRecDepth 10000 in
theorem k_X12_grows {d : Nat} {dm : List am_C} (h3 : am_d3 dm) {a1 : Int32} {M : am_I} {N : am_N} {post : am_I → am_N → Prop} (h : w_X12_grows a1 M N post) : jg (d + 1) mX12_grows dm 0 [(0, .inr (.inr (3, 0, 0))), (1, .inl a1)] [] M N (am_pv post) := by
  refine j_iconst (v := 0) dX12_grows_0 (by decide) ?_
  refine j_istore_n dX12_grows_1 (by decide) rfl ?_
  refine j_iconst (v := 0) dX12_grows_2 (by decide) ?_
  refine j_istore_n dX12_grows_3 (by decide) rfl ?_
  refine j_sub [2, 3, 1, 0] rfl ?_
  obtain ⟨n, h⟩ := h
  exact k_X12_grows_p4 h3 n _ _ _ _ _ h
def w_X12_seen_p156_b (post : am_I → am_N → Prop) (zk156 : Int32 → Int64 → Int32 → am_I → am_N → Prop) (l1 : Int32) (l3 : Int64) (l5 : Int32) (M : am_I) (N : am_N) : Prop :=
  ((5 ≤ l5 → post M N) ∧ (¬ 5 ≤ l5 → ((l3 ≤ 0 → post M N) ∧ (¬ l3 ≤ 0 → vp_in l5 5 ∧ ¬ l3 = 0 ∧ vp_in ((640 + (5 * l1)) + l5) 1635 ∧ zk156 l1 l3 (l5 + 1) (am_u M (3, 0, 1) ((640 + (5 * l1)) + l5).toNatClampNeg ((((N (3, 0, 23) l5.toNatClampNeg) * 1000000000) / l3).toInt32)) N))))
noncomputable def w_X12_seen_p156 (post : am_I → am_N → Prop) (n : Nat) : Int32 → Int64 → Int32 → am_I → am_N → Prop :=
  Nat.rec (motive := fun _ => Int32 → Int64 → Int32 → am_I → am_N → Prop) (fun _ _ _ _ _ => False) (fun _ zk => w_X12_seen_p156_b post zk) n
theorem w_X12_seen_p156_s (post : am_I → am_N → Prop) (n : Nat) (l1 : Int32) (l3 : Int64) (l5 : Int32) (M : am_I) (N : am_N) : w_X12_seen_p156 post (n + 1) l1 l3 l5 M N = w_X12_seen_p156_b post (w_X12_seen_p156 post n) l1 l3 l5 M N := rfl
set_option maxRecDepth 10000 in
theorem k_X12_seen_p156 {d : Nat} {dm : List am_C} (h3 : am_d3 dm) {post : am_I → am_N → Prop} : ∀ (n : Nat) (l1 : Int32) (l3 : Int64) (l5 : Int32) (M : am_I) (N : am_N), w_X12_seen_p156 post n l1 l3 l5 M N → jg (d + 1) mX12_seen dm 156 [(0, .inr (.inr (3, 0, 0))), (1, .inl l1), (3, .inr (.inl l3)), (5, .inl l5)] [] M N (am_pv post) := by
  intro n
  induction n with
  | zero => intro l1 l3 l5 M N h; exact h.elim
  | succ n zih =>
    intro l1 l3 l5 M N h
    replace h : w_X12_seen_p156_b post (w_X12_seen_p156 post n) l1 l3 l5 M N := h
    refine j_iload 3 dX12_seen_156 rfl ?_
    refine j_iconst (v := 5) dX12_seen_158 (by decide) ?_
    refine j_icmp_ge (tgt := 203) dX12_seen_159 (by decide) (fun hc => ?_) (fun hc => ?_)
    · replace h := h.1 hc
      exact j_vret dX12_seen_203 rfl ⟨rfl, h⟩
    · replace h := h.2 hc
      refine j_lload_n 2 dX12_seen_162 rfl ?_
      refine j_lconst (v := 0) dX12_seen_163 (by decide) ?_
      refine j_lcmp_le (tgt := 203) dX12_seen_164 dX12_seen_165 (by decide) (fun hc => ?_) (fun hc => ?_)
      · replace h := h.1 hc
        exact j_vret dX12_seen_203 rfl ⟨rfl, h⟩
      · replace h := h.2 hc
        refine j_aload_n 0 dX12_seen_168 rfl ?_
        refine j_getR (b := (3, 0, 1)) dX12_seen_169 fsRX12_7 (h3 0 (by decide)) rfl rfl ?_
        refine j_sipush (v := 640) dX12_seen_172 (by decide) ?_
        refine j_iconst (v := 5) dX12_seen_175 (by decide) ?_
        refine j_iload_n 1 dX12_seen_176 rfl ?_
        refine j_imul dX12_seen_177 ?_
        refine j_iadd dX12_seen_178 ?_
        refine j_iload 3 dX12_seen_179 rfl ?_
        refine j_iadd dX12_seen_181 ?_
        refine j_aload_n 0 dX12_seen_182 rfl ?_
        refine j_getR (b := (3, 0, 23)) dX12_seen_183 fsRX12_81 (h3 0 (by decide)) rfl rfl ?_
        refine j_iload 3 dX12_seen_186 rfl ?_
        obtain ⟨hq, h⟩ := h
        refine j_lald dX12_seen_188 (h3 23 (by decide)) rfl hq ?_
        refine j_ldc2 (v := 1000000000) dX12_seen_189 cw_1580 ?_
        refine j_lmul dX12_seen_192 ?_
        refine j_lload_n 2 dX12_seen_193 rfl ?_
        obtain ⟨hq, h⟩ := h
        refine j_ldiv dX12_seen_194 hq ?_
        refine j_l2i dX12_seen_195 ?_
        obtain ⟨hq, h⟩ := h
        refine j_iast dX12_seen_196 (h3 1 (by decide)) rfl hq ?_
        refine j_iinc 3 dX12_seen_197 rfl rfl (by decide) rfl ?_
        refine j_goto (tgt := 156) dX12_seen_200 (by decide) ?_
        refine j_sub [1, 2, 3, 0] rfl ?_
        exact zih _ _ _ _ _ h
def w_X12_seen_p124 (post : am_I → am_N → Prop) (zk33 : Int32 → Int32 → Int64 → Int32 → am_I → am_N → Prop) (zk65 : Int32 → Int32 → Int64 → Int32 → Int32 → am_I → am_N → Prop) (l1 : Int32) (l2 : Int32) (l3 : Int64) (l5 : Int32) (l6 : Int32) (s0 : Int32) (s1 : Int64) (s2 : Int32) (M : am_I) (N : am_N) : Prop :=
  vp_in s2 5 ∧ zk65 l1 l2 l3 l5 (l6 + 1) M (am_ul N (3, 0, 23) s2.toNatClampNeg ((s1 * s0.toInt64) / 100))
set_option maxRecDepth 10000 in
theorem k_X12_seen_p124 {d : Nat} {dm : List am_C} (h3 : am_d3 dm) {post : am_I → am_N → Prop} {zk33 : Int32 → Int32 → Int64 → Int32 → am_I → am_N → Prop} {zk65 : Int32 → Int32 → Int64 → Int32 → Int32 → am_I → am_N → Prop} (zhk33 : ∀ (l1 : Int32) (l2 : Int32) (l3 : Int64) (l5 : Int32) (M : am_I) (N : am_N), zk33 l1 l2 l3 l5 M N → jg (d + 1) mX12_seen dm 33 [(0, .inr (.inr (3, 0, 0))), (1, .inl l1), (2, .inl l2), (3, .inr (.inl l3)), (5, .inl l5)] [] M N (am_pv post)) (zhk65 : ∀ (l1 : Int32) (l2 : Int32) (l3 : Int64) (l5 : Int32) (l6 : Int32) (M : am_I) (N : am_N), zk65 l1 l2 l3 l5 l6 M N → jg (d + 1) mX12_seen dm 65 [(0, .inr (.inr (3, 0, 0))), (1, .inl l1), (2, .inl l2), (3, .inr (.inl l3)), (5, .inl l5), (6, .inl l6)] [] M N (am_pv post)) (l1 : Int32) (l2 : Int32) (l3 : Int64) (l5 : Int32) (l6 : Int32) (s0 : Int32) (s1 : Int64) (s2 : Int32) (M : am_I) (N : am_N) (h : w_X12_seen_p124 post zk33 zk65 l1 l2 l3 l5 l6 s0 s1 s2 M N) : jg (d + 1) mX12_seen dm 124 [(0, .inr (.inr (3, 0, 0))), (1, .inl l1), (2, .inl l2), (3, .inr (.inl l3)), (5, .inl l5), (6, .inl l6)] [.inl s0, .inr (.inl s1), .inl s2, .inr (.inr (3, 0, 23))] M N (am_pv post) := by
  refine j_i2l dX12_seen_124 ?_
  refine j_lmul dX12_seen_125 ?_
  refine j_ldc2 (v := 100) dX12_seen_126 cw_1585 ?_
  refine j_ldiv dX12_seen_129 (by decide) ?_
  obtain ⟨hq, h⟩ := h
  refine j_last dX12_seen_130 (h3 23 (by decide)) rfl hq ?_
  refine j_iinc 5 dX12_seen_131 rfl rfl (by decide) rfl ?_
  refine j_goto (tgt := 65) dX12_seen_134 (by decide) ?_
  refine j_sub [1, 2, 3, 4, 5, 0] rfl ?_
  exact zhk65 _ _ _ _ _ _ _ h
def w_X12_seen_p65_b (post : am_I → am_N → Prop) (zk33 : Int32 → Int32 → Int64 → Int32 → am_I → am_N → Prop) (zk65 : Int32 → Int32 → Int64 → Int32 → Int32 → am_I → am_N → Prop) (l1 : Int32) (l2 : Int32) (l3 : Int64) (l5 : Int32) (l6 : Int32) (M : am_I) (N : am_N) : Prop :=
  ((4 ≤ l6 → vp_in l5 5 ∧ ∀ zv1 : Int64, zv1 = l3 + (N (3, 0, 23) l5.toNatClampNeg) → zk33 l1 l2 zv1 (l5 + 1) M N) ∧ (¬ 4 ≤ l6 → vp_in l5 5 ∧ ((¬ ((l2 >>> (l6 &&& 31)) &&& 1) = 1 → vp_in ((4 * l5) + l6) 20 ∧ w_X12_seen_p124 post zk33 zk65 l1 l2 l3 l5 l6 (100 - (M (3, 0, 21) ((4 * l5) + l6).toNatClampNeg)) (N (3, 0, 23) l5.toNatClampNeg) l5 M N) ∧ (((l2 >>> (l6 &&& 31)) &&& 1) = 1 → vp_in ((4 * l5) + l6) 20 ∧ w_X12_seen_p124 post zk33 zk65 l1 l2 l3 l5 l6 (M (3, 0, 21) ((4 * l5) + l6).toNatClampNeg) (N (3, 0, 23) l5.toNatClampNeg) l5 M N))))
noncomputable def w_X12_seen_p65 (post : am_I → am_N → Prop) (zk33 : Int32 → Int32 → Int64 → Int32 → am_I → am_N → Prop) (n : Nat) : Int32 → Int32 → Int64 → Int32 → Int32 → am_I → am_N → Prop :=
  Nat.rec (motive := fun _ => Int32 → Int32 → Int64 → Int32 → Int32 → am_I → am_N → Prop) (fun _ _ _ _ _ _ _ => False) (fun _ zk => w_X12_seen_p65_b post zk33 zk) n
theorem w_X12_seen_p65_s (post : am_I → am_N → Prop) (zk33 : Int32 → Int32 → Int64 → Int32 → am_I → am_N → Prop) (n : Nat) (l1 : Int32) (l2 : Int32) (l3 : Int64) (l5 : Int32) (l6 : Int32) (M : am_I) (N : am_N) : w_X12_seen_p65 post zk33 (n + 1) l1 l2 l3 l5 l6 M N = w_X12_seen_p65_b post zk33 (w_X12_seen_p65 post zk33 n) l1 l2 l3 l5 l6 M N := rfl
set_option maxRecDepth 10000 in
theorem k_X12_seen_p65 {d : Nat} {dm : List am_C} (h3 : am_d3 dm) {post : am_I → am_N → Prop} {zk33 : Int32 → Int32 → Int64 → Int32 → am_I → am_N → Prop} (zhk33 : ∀ (l1 : Int32) (l2 : Int32) (l3 : Int64) (l5 : Int32) (M : am_I) (N : am_N), zk33 l1 l2 l3 l5 M N → jg (d + 1) mX12_seen dm 33 [(0, .inr (.inr (3, 0, 0))), (1, .inl l1), (2, .inl l2), (3, .inr (.inl l3)), (5, .inl l5)] [] M N (am_pv post)) : ∀ (n : Nat) (l1 : Int32) (l2 : Int32) (l3 : Int64) (l5 : Int32) (l6 : Int32) (M : am_I) (N : am_N), w_X12_seen_p65 post zk33 n l1 l2 l3 l5 l6 M N → jg (d + 1) mX12_seen dm 65 [(0, .inr (.inr (3, 0, 0))), (1, .inl l1), (2, .inl l2), (3, .inr (.inl l3)), (5, .inl l5), (6, .inl l6)] [] M N (am_pv post) := by
  intro n
  induction n with
  | zero => intro l1 l2 l3 l5 l6 M N h; exact h.elim
  | succ n zih =>
    intro l1 l2 l3 l5 l6 M N h
    replace h : w_X12_seen_p65_b post zk33 (w_X12_seen_p65 post zk33 n) l1 l2 l3 l5 l6 M N := h
    refine j_iload 5 dX12_seen_65 rfl ?_
    refine j_iconst (v := 4) dX12_seen_67 (by decide) ?_
    refine j_icmp_ge (tgt := 137) dX12_seen_68 (by decide) (fun hc => ?_) (fun hc => ?_)
    · replace h := h.1 hc
      refine j_lload_n 3 dX12_seen_137 rfl ?_
      refine j_aload_n 0 dX12_seen_138 rfl ?_
      refine j_getR (b := (3, 0, 23)) dX12_seen_139 fsRX12_81 (h3 0 (by decide)) rfl rfl ?_
      refine j_iload 4 dX12_seen_142 rfl ?_
      obtain ⟨hq, h⟩ := h
      refine j_lald dX12_seen_144 (h3 23 (by decide)) rfl hq ?_
      refine j_ladd dX12_seen_145 ?_
      refine j_topl (fun zv1 hzv1 => ?_)
      replace h := h zv1 hzv1
      refine j_lstore_n dX12_seen_146 (by decide) rfl ?_
      refine j_iinc 4 dX12_seen_147 rfl rfl (by decide) rfl ?_
      refine j_goto (tgt := 33) dX12_seen_150 (by decide) ?_
      refine j_sub [2, 3, 4, 1, 0] rfl ?_
      exact zhk33 _ _ _ _ _ _ h
    · replace h := h.2 hc
      refine j_aload_n 0 dX12_seen_71 rfl ?_
      refine j_getR (b := (3, 0, 23)) dX12_seen_72 fsRX12_81 (h3 0 (by decide)) rfl rfl ?_
      refine j_iload 4 dX12_seen_75 rfl ?_
      refine j_aload_n 0 dX12_seen_77 rfl ?_
      refine j_getR (b := (3, 0, 23)) dX12_seen_78 fsRX12_81 (h3 0 (by decide)) rfl rfl ?_
      refine j_iload 4 dX12_seen_81 rfl ?_
      obtain ⟨hq, h⟩ := h
      refine j_lald dX12_seen_83 (h3 23 (by decide)) rfl hq ?_
      refine j_iload_n 2 dX12_seen_84 rfl ?_
      refine j_iload 5 dX12_seen_85 rfl ?_
      refine j_ishr dX12_seen_87 ?_
      refine j_iconst (v := 1) dX12_seen_88 (by decide) ?_
      refine j_iand dX12_seen_89 ?_
      refine j_iconst (v := 1) dX12_seen_90 (by decide) ?_
      refine j_icmp_ne (tgt := 109) dX12_seen_91 (by decide) (fun hc => ?_) (fun hc => ?_)
      · replace h := h.1 hc
        refine j_bipush (v := 100) dX12_seen_109 (by decide) ?_
        refine j_aload_n 0 dX12_seen_111 rfl ?_
        refine j_getR (b := (3, 0, 21)) dX12_seen_112 fsRX12_70 (h3 0 (by decide)) rfl rfl ?_
        refine j_iconst (v := 4) dX12_seen_115 (by decide) ?_
        refine j_iload 4 dX12_seen_116 rfl ?_
        refine j_imul dX12_seen_118 ?_
        refine j_iload 5 dX12_seen_119 rfl ?_
        refine j_iadd dX12_seen_121 ?_
        obtain ⟨hq, h⟩ := h
        refine j_iald dX12_seen_122 (h3 21 (by decide)) rfl hq ?_
        refine j_isub dX12_seen_123 ?_
        refine j_sub [0, 1, 2, 3, 4, 5] rfl ?_
        exact k_X12_seen_p124 h3 zhk33 zih _ _ _ _ _ _ _ _ _ _ h
      · replace h := h.2 hc
        refine j_aload_n 0 dX12_seen_94 rfl ?_
        refine j_getR (b := (3, 0, 21)) dX12_seen_95 fsRX12_70 (h3 0 (by decide)) rfl rfl ?_
        refine j_iconst (v := 4) dX12_seen_98 (by decide) ?_
        refine j_iload 4 dX12_seen_99 rfl ?_
        refine j_imul dX12_seen_101 ?_
        refine j_iload 5 dX12_seen_102 rfl ?_
        refine j_iadd dX12_seen_104 ?_
        obtain ⟨hq, h⟩ := h
        refine j_iald dX12_seen_105 (h3 21 (by decide)) rfl hq ?_
        refine j_goto (tgt := 124) dX12_seen_106 (by decide) ?_
        refine j_sub [0, 1, 2, 3, 4, 5] rfl ?_
        exact k_X12_seen_p124 h3 zhk33 zih _ _ _ _ _ _ _ _ _ _ h
def w_X12_seen_p33_b (post : am_I → am_N → Prop) (zk33 : Int32 → Int32 → Int64 → Int32 → am_I → am_N → Prop) (l1 : Int32) (l2 : Int32) (l3 : Int64) (l5 : Int32) (M : am_I) (N : am_N) : Prop :=
  ((5 ≤ l5 → ∃ n, w_X12_seen_p156 post n l1 l3 0 M N) ∧ (¬ 5 ≤ l5 → vp_in ((640 + (5 * l1)) + l5) 1635 ∧ vp_in l5 5 ∧ ∃ n, w_X12_seen_p65 post zk33 n l1 l2 l3 l5 0 M (am_ul N (3, 0, 23) l5.toNatClampNeg ((M (3, 0, 1) ((640 + (5 * l1)) + l5).toNatClampNeg).toInt64))))
noncomputable def w_X12_seen_p33 (post : am_I → am_N → Prop) (n : Nat) : Int32 → Int32 → Int64 → Int32 → am_I → am_N → Prop :=
  Nat.rec (motive := fun _ => Int32 → Int32 → Int64 → Int32 → am_I → am_N → Prop) (fun _ _ _ _ _ _ => False) (fun _ zk => w_X12_seen_p33_b post zk) n
theorem w_X12_seen_p33_s (post : am_I → am_N → Prop) (n : Nat) (l1 : Int32) (l2 : Int32) (l3 : Int64) (l5 : Int32) (M : am_I) (N : am_N) : w_X12_seen_p33 post (n + 1) l1 l2 l3 l5 M N = w_X12_seen_p33_b post (w_X12_seen_p33 post n) l1 l2 l3 l5 M N := rfl
set_option maxRecDepth 10000 in
theorem k_X12_seen_p33 {d : Nat} {dm : List am_C} (h3 : am_d3 dm) {post : am_I → am_N → Prop} : ∀ (n : Nat) (l1 : Int32) (l2 : Int32) (l3 : Int64) (l5 : Int32) (M : am_I) (N : am_N), w_X12_seen_p33 post n l1 l2 l3 l5 M N → jg (d + 1) mX12_seen dm 33 [(0, .inr (.inr (3, 0, 0))), (1, .inl l1), (2, .inl l2), (3, .inr (.inl l3)), (5, .inl l5)] [] M N (am_pv post) := by
  intro n
  induction n with
  | zero => intro l1 l2 l3 l5 M N h; exact h.elim
  | succ n zih =>
    intro l1 l2 l3 l5 M N h
    replace h : w_X12_seen_p33_b post (w_X12_seen_p33 post n) l1 l2 l3 l5 M N := h
    refine j_iload 4 dX12_seen_33 rfl ?_
    refine j_iconst (v := 5) dX12_seen_35 (by decide) ?_
    refine j_icmp_ge (tgt := 153) dX12_seen_36 (by decide) (fun hc => ?_) (fun hc => ?_)
    · replace h := h.1 hc
      refine j_iconst (v := 0) dX12_seen_153 (by decide) ?_
      refine j_istore dX12_seen_154 (by decide) rfl ?_
      refine j_sub [1, 2, 4, 0] rfl ?_
      obtain ⟨n, h⟩ := h
      exact k_X12_seen_p156 h3 n _ _ _ _ _ h
    · replace h := h.2 hc
      refine j_aload_n 0 dX12_seen_39 rfl ?_
      refine j_getR (b := (3, 0, 23)) dX12_seen_40 fsRX12_81 (h3 0 (by decide)) rfl rfl ?_
      refine j_iload 4 dX12_seen_43 rfl ?_
      refine j_aload_n 0 dX12_seen_45 rfl ?_
      refine j_getR (b := (3, 0, 1)) dX12_seen_46 fsRX12_7 (h3 0 (by decide)) rfl rfl ?_
      refine j_sipush (v := 640) dX12_seen_49 (by decide) ?_
      refine j_iconst (v := 5) dX12_seen_52 (by decide) ?_
      refine j_iload_n 1 dX12_seen_53 rfl ?_
      refine j_imul dX12_seen_54 ?_
      refine j_iadd dX12_seen_55 ?_
      refine j_iload 4 dX12_seen_56 rfl ?_
      refine j_iadd dX12_seen_58 ?_
      obtain ⟨hq, h⟩ := h
      refine j_iald dX12_seen_59 (h3 1 (by decide)) rfl hq ?_
      refine j_i2l dX12_seen_60 ?_
      obtain ⟨hq, h⟩ := h
      refine j_last dX12_seen_61 (h3 23 (by decide)) rfl hq ?_
      refine j_iconst (v := 0) dX12_seen_62 (by decide) ?_
      refine j_istore dX12_seen_63 (by decide) rfl ?_
      refine j_sub [1, 2, 3, 4, 5, 0] rfl ?_
      obtain ⟨n, h⟩ := h
      exact k_X12_seen_p65 h3 zih n _ _ _ _ _ _ _ h
def w_X12_seen (a1 : Int32) (a2 : Int32) (M : am_I) (N : am_N) (post : am_I → am_N → Prop) : Prop :=
  vp_in (192 + a1) 1635 ∧ ((¬ (M (3, 0, 1) (192 + a1).toNatClampNeg) = 0 → vp_in (384 + a1) 1635 ∧ vp_in (384 + a1) 1635 ∧ ∃ n, w_X12_seen_p33 post n a1 a2 0 0 (am_u M (3, 0, 1) (384 + a1).toNatClampNeg ((M (3, 0, 1) (384 + a1).toNatClampNeg) + 1)) N) ∧ ((M (3, 0, 1) (192 + a1).toNatClampNeg) = 0 → post M N))
set_option maxRecDepth 10000 in
theorem k_X12_seen {d : Nat} {dm : List am_C} (h3 : am_d3 dm) {a1 : Int32} {a2 : Int32} {M : am_I} {N : am_N} {post : am_I → am_N → Prop} (h : w_X12_seen a1 a2 M N post) : jg (d + 1) mX12_seen dm 0 [(0, .inr (.inr (3, 0, 0))), (1, .inl a1), (2, .inl a2)] [] M N (am_pv post) := by
  refine j_aload_n 0 dX12_seen_0 rfl ?_
  refine j_getR (b := (3, 0, 1)) dX12_seen_1 fsRX12_7 (h3 0 (by decide)) rfl rfl ?_
  refine j_sipush (v := 192) dX12_seen_4 (by decide) ?_
  refine j_iload_n 1 dX12_seen_7 rfl ?_
  refine j_iadd dX12_seen_8 ?_
  obtain ⟨hq, h⟩ := h
  refine j_iald dX12_seen_9 (h3 1 (by decide)) rfl hq ?_
  refine j_if_ne (tgt := 14) dX12_seen_10 (by decide) (fun hc => ?_) (fun hc => ?_)
  · replace h := h.1 hc
    refine j_aload_n 0 dX12_seen_14 rfl ?_
    refine j_getR (b := (3, 0, 1)) dX12_seen_15 fsRX12_7 (h3 0 (by decide)) rfl rfl ?_
    refine j_sipush (v := 384) dX12_seen_18 (by decide) ?_
    refine j_iload_n 1 dX12_seen_21 rfl ?_
    refine j_iadd dX12_seen_22 ?_
    refine j_dup2 dX12_seen_23 rfl rfl ?_
    obtain ⟨hq, h⟩ := h
    refine j_iald dX12_seen_24 (h3 1 (by decide)) rfl hq ?_
    refine j_iconst (v := 1) dX12_seen_25 (by decide) ?_
    refine j_iadd dX12_seen_26 ?_
    obtain ⟨hq, h⟩ := h
    refine j_iast dX12_seen_27 (h3 1 (by decide)) rfl hq ?_
    refine j_lconst (v := 0) dX12_seen_28 (by decide) ?_
    refine j_lstore_n dX12_seen_29 (by decide) rfl ?_
    refine j_iconst (v := 0) dX12_seen_30 (by decide) ?_
    refine j_istore dX12_seen_31 (by decide) rfl ?_
    refine j_sub [2, 3, 4, 1, 0] rfl ?_
    obtain ⟨n, h⟩ := h
    exact k_X12_seen_p33 h3 n _ _ _ _ _ _ h
  · replace h := h.2 hc
    exact j_vret dX12_seen_13 rfl ⟨rfl, h⟩
def w_X12_dies (a1 : Int32) (a2 : Int32) (M : am_I) (N : am_N) (post : am_I → am_N → Prop) : Prop :=
  vp_in (192 + a1) 1635 ∧ vp_in (576 + a1) 1635 ∧ post (am_u (am_u M (3, 0, 1) (192 + a1).toNatClampNeg 0) (3, 0, 1) (576 + a1).toNatClampNeg a2) N
set_option maxRecDepth 10000 in
theorem k_X12_dies {d : Nat} {dm : List am_C} (h3 : am_d3 dm) {a1 : Int32} {a2 : Int32} {M : am_I} {N : am_N} {post : am_I → am_N → Prop} (h : w_X12_dies a1 a2 M N post) : jg (d + 1) mX12_dies dm 0 [(0, .inr (.inr (3, 0, 0))), (1, .inl a1), (2, .inl a2)] [] M N (am_pv post) := by
  refine j_aload_n 0 dX12_dies_0 rfl ?_
  refine j_getR (b := (3, 0, 1)) dX12_dies_1 fsRX12_7 (h3 0 (by decide)) rfl rfl ?_
  refine j_sipush (v := 192) dX12_dies_4 (by decide) ?_
  refine j_iload_n 1 dX12_dies_7 rfl ?_
  refine j_iadd dX12_dies_8 ?_
  refine j_iconst (v := 0) dX12_dies_9 (by decide) ?_
  obtain ⟨hq, h⟩ := h
  refine j_iast dX12_dies_10 (h3 1 (by decide)) rfl hq ?_
  refine j_aload_n 0 dX12_dies_11 rfl ?_
  refine j_getR (b := (3, 0, 1)) dX12_dies_12 fsRX12_7 (h3 0 (by decide)) rfl rfl ?_
  refine j_sipush (v := 576) dX12_dies_15 (by decide) ?_
  refine j_iload_n 1 dX12_dies_18 rfl ?_
  refine j_iadd dX12_dies_19 ?_
  refine j_iload_n 2 dX12_dies_20 rfl ?_
  obtain ⟨hq, h⟩ := h
  refine j_iast dX12_dies_21 (h3 1 (by decide)) rfl hq ?_
  exact j_vret dX12_dies_22 rfl ⟨rfl, h⟩
def w_X12_weeds_p5_b (post : Int32 → am_I → am_N → Prop) (zk5 : Int32 → Int64 → Int32 → am_I → am_N → Prop) (l1 : Int32) (l2 : Int64) (l4 : Int32) (M : am_I) (N : am_N) : Prop :=
  ((5 ≤ l4 → post ((l2 / 10000000).toInt32) M N) ∧ (¬ 5 ≤ l4 → vp_in l4 5 ∧ (((M (3, 0, 22) l4.toNatClampNeg) = 0 → zk5 l1 l2 (l4 + 1) M N) ∧ (¬ (M (3, 0, 22) l4.toNatClampNeg) = 0 → vp_in ((640 + (5 * l1)) + l4) 1635 ∧ ∀ zv1 : Int64, zv1 = l2 + ((M (3, 0, 1) ((640 + (5 * l1)) + l4).toNatClampNeg).toInt64) → zk5 l1 zv1 (l4 + 1) M N))))
noncomputable def w_X12_weeds_p5 (post : Int32 → am_I → am_N → Prop) (n : Nat) : Int32 → Int64 → Int32 → am_I → am_N → Prop :=
  Nat.rec (motive := fun _ => Int32 → Int64 → Int32 → am_I → am_N → Prop) (fun _ _ _ _ _ => False) (fun _ zk => w_X12_weeds_p5_b post zk) n
theorem w_X12_weeds_p5_s (post : Int32 → am_I → am_N → Prop) (n : Nat) (l1 : Int32) (l2 : Int64) (l4 : Int32) (M : am_I) (N : am_N) : w_X12_weeds_p5 post (n + 1) l1 l2 l4 M N = w_X12_weeds_p5_b post (w_X12_weeds_p5 post n) l1 l2 l4 M N := rfl
set_option maxRecDepth 10000 in
theorem k_X12_weeds_p5 {d : Nat} {dm : List am_C} (h3 : am_d3 dm) {post : Int32 → am_I → am_N → Prop} : ∀ (n : Nat) (l1 : Int32) (l2 : Int64) (l4 : Int32) (M : am_I) (N : am_N), w_X12_weeds_p5 post n l1 l2 l4 M N → jg (d + 1) mX12_weeds dm 5 [(0, .inr (.inr (3, 0, 0))), (1, .inl l1), (2, .inr (.inl l2)), (4, .inl l4)] [] M N (am_pi post) := by
  intro n
  induction n with
  | zero => intro l1 l2 l4 M N h; exact h.elim
  | succ n zih =>
    intro l1 l2 l4 M N h
    replace h : w_X12_weeds_p5_b post (w_X12_weeds_p5 post n) l1 l2 l4 M N := h
    refine j_iload 3 dX12_weeds_5 rfl ?_
    refine j_iconst (v := 5) dX12_weeds_7 (by decide) ?_
    refine j_icmp_ge (tgt := 46) dX12_weeds_8 (by decide) (fun hc => ?_) (fun hc => ?_)
    · replace h := h.1 hc
      refine j_lload_n 2 dX12_weeds_46 rfl ?_
      refine j_ldc2 (v := 10000000) dX12_weeds_47 cw_1758 ?_
      refine j_ldiv dX12_weeds_50 (by decide) ?_
      refine j_l2i dX12_weeds_51 ?_
      exact j_iret dX12_weeds_52 rfl ⟨_, rfl, h⟩
    · replace h := h.2 hc
      refine j_aload_n 0 dX12_weeds_11 rfl ?_
      refine j_getR (b := (3, 0, 22)) dX12_weeds_12 fsRX12_73 (h3 0 (by decide)) rfl rfl ?_
      refine j_iload 3 dX12_weeds_15 rfl ?_
      obtain ⟨hq, h⟩ := h
      refine j_zald dX12_weeds_17 (h3 22 (by decide)) rfl hq ?_
      refine j_if_eq (tgt := 40) dX12_weeds_18 (by decide) (fun hc => ?_) (fun hc => ?_)
      · replace h := h.1 hc
        refine j_iinc 3 dX12_weeds_40 rfl rfl (by decide) rfl ?_
        refine j_goto (tgt := 5) dX12_weeds_43 (by decide) ?_
        refine j_sub [1, 2, 3, 0] rfl ?_
        exact zih _ _ _ _ _ h
      · replace h := h.2 hc
        refine j_lload_n 2 dX12_weeds_21 rfl ?_
        refine j_aload_n 0 dX12_weeds_22 rfl ?_
        refine j_getR (b := (3, 0, 1)) dX12_weeds_23 fsRX12_7 (h3 0 (by decide)) rfl rfl ?_
        refine j_sipush (v := 640) dX12_weeds_26 (by decide) ?_
        refine j_iconst (v := 5) dX12_weeds_29 (by decide) ?_
        refine j_iload_n 1 dX12_weeds_30 rfl ?_
        refine j_imul dX12_weeds_31 ?_
        refine j_iadd dX12_weeds_32 ?_
        refine j_iload 3 dX12_weeds_33 rfl ?_
        refine j_iadd dX12_weeds_35 ?_
        obtain ⟨hq, h⟩ := h
        refine j_iald dX12_weeds_36 (h3 1 (by decide)) rfl hq ?_
        refine j_i2l dX12_weeds_37 ?_
        refine j_ladd dX12_weeds_38 ?_
        refine j_topl (fun zv1 hzv1 => ?_)
        replace h := h zv1 hzv1
        refine j_lstore_n dX12_weeds_39 (by decide) rfl ?_
        refine j_iinc 3 dX12_weeds_40 rfl rfl (by decide) rfl ?_
        refine j_goto (tgt := 5) dX12_weeds_43 (by decide) ?_
        refine j_sub [2, 3, 1, 0] rfl ?_
        exact zih _ _ _ _ _ h
def w_X12_weeds (a1 : Int32) (M : am_I) (N : am_N) (post : Int32 → am_I → am_N → Prop) : Prop :=
  ∃ n, w_X12_weeds_p5 post n a1 0 0 M N
set_option maxRecDepth 10000 in
theorem k_X12_weeds {d : Nat} {dm : List am_C} (h3 : am_d3 dm) {a1 : Int32} {M : am_I} {N : am_N} {post : Int32 → am_I → am_N → Prop} (h : w_X12_weeds a1 M N post) : jg (d + 1) mX12_weeds dm 0 [(0, .inr (.inr (3, 0, 0))), (1, .inl a1)] [] M N (am_pi post) := by
  refine j_lconst (v := 0) dX12_weeds_0 (by decide) ?_
  refine j_lstore_n dX12_weeds_1 (by decide) rfl ?_
  refine j_iconst (v := 0) dX12_weeds_2 (by decide) ?_
  refine j_istore dX12_weeds_3 (by decide) rfl ?_
  refine j_sub [2, 3, 1, 0] rfl ?_
  obtain ⟨n, h⟩ := h
  exact k_X12_weeds_p5 h3 n _ _ _ _ _ h
def w_X12_heavy (a1 : Int32) (a2 : Int32) (M : am_I) (N : am_N) (post : Int32 → am_I → am_N → Prop) : Prop :=
  vp_in a1 8 ∧ vp_in (64 + a2) 1635 ∧ post ((M (3, 0, 12) a1.toNatClampNeg) * (1 + ((M (3, 0, 1) (64 + a2).toNatClampNeg) / 100))) M N
set_option maxRecDepth 10000 in
theorem k_X12_heavy {d : Nat} {dm : List am_C} (h3 : am_d3 dm) {a1 : Int32} {a2 : Int32} {M : am_I} {N : am_N} {post : Int32 → am_I → am_N → Prop} (h : w_X12_heavy a1 a2 M N post) : jg (d + 1) mX12_heavy dm 0 [(0, .inr (.inr (3, 0, 0))), (1, .inl a1), (2, .inl a2)] [] M N (am_pi post) := by
  refine j_aload_n 0 dX12_heavy_0 rfl ?_
  refine j_getR (b := (3, 0, 12)) dX12_heavy_1 fsRX12_43 (h3 0 (by decide)) rfl rfl ?_
  refine j_iload_n 1 dX12_heavy_4 rfl ?_
  obtain ⟨hq, h⟩ := h
  refine j_iald dX12_heavy_5 (h3 12 (by decide)) rfl hq ?_
  refine j_iconst (v := 1) dX12_heavy_6 (by decide) ?_
  refine j_aload_n 0 dX12_heavy_7 rfl ?_
  refine j_getR (b := (3, 0, 1)) dX12_heavy_8 fsRX12_7 (h3 0 (by decide)) rfl rfl ?_
  refine j_bipush (v := 64) dX12_heavy_11 (by decide) ?_
  refine j_iload_n 2 dX12_heavy_13 rfl ?_
  refine j_iadd dX12_heavy_14 ?_
  obtain ⟨hq, h⟩ := h
  refine j_iald dX12_heavy_15 (h3 1 (by decide)) rfl hq ?_
  refine j_bipush (v := 100) dX12_heavy_16 (by decide) ?_
  refine j_idiv dX12_heavy_18 (by decide) ?_
  refine j_iadd dX12_heavy_19 ?_
  refine j_imul dX12_heavy_20 ?_
  exact j_iret dX12_heavy_21 rfl ⟨_, rfl, h⟩
def w_X12_mayEnter (a1 : Int32) (a2 : Int32) (M : am_I) (N : am_N) (post : Int32 → am_I → am_N → Prop) : Prop :=
  vp_in ((992 + (64 * a1)) + a2) 1635 ∧ ((¬ (M (3, 0, 1) ((992 + (64 * a1)) + a2).toNatClampNeg) = 0 → post 0 M N) ∧ ((M (3, 0, 1) ((992 + (64 * a1)) + a2).toNatClampNeg) = 0 → vp_in (128 + a2) 1635 ∧ w_X12_heavy a1 a2 M N (fun zr1 zM2 zN3 => (((zM2 (3, 0, 1) 1626) < ((M (3, 0, 1) (128 + a2).toNatClampNeg) + zr1) → post 0 zM2 zN3) ∧ (¬ (zM2 (3, 0, 1) 1626) < ((M (3, 0, 1) (128 + a2).toNatClampNeg) + zr1) → post 1 zM2 zN3)))))
set_option maxRecDepth 10000 in
theorem k_X12_mayEnter {d : Nat} {dm : List am_C} (h3 : am_d3 dm) {a1 : Int32} {a2 : Int32} {M : am_I} {N : am_N} {post : Int32 → am_I → am_N → Prop} (h : w_X12_mayEnter a1 a2 M N post) : jg (d + 2) mX12_mayEnter dm 0 [(0, .inr (.inr (3, 0, 0))), (1, .inl a1), (2, .inl a2)] [] M N (am_pi post) := by
  refine j_aload_n 0 dX12_mayEnter_0 rfl ?_
  refine j_getR (b := (3, 0, 1)) dX12_mayEnter_1 fsRX12_7 (h3 0 (by decide)) rfl rfl ?_
  refine j_sipush (v := 992) dX12_mayEnter_4 (by decide) ?_
  refine j_bipush (v := 64) dX12_mayEnter_7 (by decide) ?_
  refine j_iload_n 1 dX12_mayEnter_9 rfl ?_
  refine j_imul dX12_mayEnter_10 ?_
  refine j_iadd dX12_mayEnter_11 ?_
  refine j_iload_n 2 dX12_mayEnter_12 rfl ?_
  refine j_iadd dX12_mayEnter_13 ?_
  obtain ⟨hq, h⟩ := h
  refine j_iald dX12_mayEnter_14 (h3 1 (by decide)) rfl hq ?_
  refine j_if_ne (tgt := 50) dX12_mayEnter_15 (by decide) (fun hc => ?_) (fun hc => ?_)
  · replace h := h.1 hc
    refine j_iconst (v := 0) dX12_mayEnter_50 (by decide) ?_
    exact j_zret dX12_mayEnter_51 rfl (Or.inl rfl) ⟨_, rfl, h⟩
  · replace h := h.2 hc
    refine j_aload_n 0 dX12_mayEnter_18 rfl ?_
    refine j_getR (b := (3, 0, 1)) dX12_mayEnter_19 fsRX12_7 (h3 0 (by decide)) rfl rfl ?_
    refine j_sipush (v := 128) dX12_mayEnter_22 (by decide) ?_
    refine j_iload_n 2 dX12_mayEnter_25 rfl ?_
    refine j_iadd dX12_mayEnter_26 ?_
    obtain ⟨hq, h⟩ := h
    refine j_iald dX12_mayEnter_27 (h3 1 (by decide)) rfl hq ?_
    refine j_aload_n 0 dX12_mayEnter_28 rfl ?_
    refine j_iload_n 1 dX12_mayEnter_29 rfl ?_
    refine j_iload_n 2 dX12_mayEnter_30 rfl ?_
    refine j_invV (As := [.inl a1, .inl a2]) dX12_mayEnter_31 msRX12_241 mbX12_heavy rfl rfl (Nat.le_of_ble_eq_true rfl) (Nat.le_of_ble_eq_true rfl) (by omega) (h3 0 (by decide)) rfl rfl (k_X12_heavy (d := d + 0) h3 h) ?_
    rintro _ zM2 zN3 ⟨zr1, rfl, h⟩
    refine j_iadd dX12_mayEnter_34 ?_
    refine j_aload_n 0 dX12_mayEnter_35 rfl ?_
    refine j_getR (b := (3, 0, 1)) dX12_mayEnter_36 fsRX12_7 (h3 0 (by decide)) rfl rfl ?_
    refine j_sipush (v := 1626) dX12_mayEnter_39 (by decide) ?_
    refine j_iald dX12_mayEnter_42 (h3 1 (by decide)) rfl (by unfold vp_in; decide) ?_
    refine j_icmp_gt (tgt := 50) dX12_mayEnter_43 (by decide) (fun hc => ?_) (fun hc => ?_)
    · replace h := h.1 hc
      refine j_iconst (v := 0) dX12_mayEnter_50 (by decide) ?_
      exact j_zret dX12_mayEnter_51 rfl (Or.inl rfl) ⟨_, rfl, h⟩
    · replace h := h.2 hc
      refine j_iconst (v := 1) dX12_mayEnter_46 (by decide) ?_
      refine j_goto (tgt := 51) dX12_mayEnter_47 (by decide) ?_
      exact j_zret dX12_mayEnter_51 rfl (Or.inr rfl) ⟨_, rfl, h⟩
def w_X12_nextOf_p15_b (post : Int32 → am_I → am_N → Prop) (zk15 : Int32 → Int32 → Int32 → am_I → am_N → Prop) (l1 : Int32) (l2 : Int32) (l3 : Int32) (M : am_I) (N : am_N) : Prop :=
  ((4 ≤ l3 → post (-1) M N) ∧ (¬ 4 ≤ l3 → w_X12_beside l2 l3 M N (fun zr1 zM2 zN3 => ((zr1 = (-1) → zk15 l1 l2 (l3 + 1) zM2 zN3) ∧ (¬ zr1 = (-1) → w_X12_mayEnter l1 zr1 zM2 zN3 (fun zr4 zM5 zN6 => ((zr4 = 0 → zk15 l1 l2 (l3 + 1) zM5 zN6) ∧ (¬ zr4 = 0 → vp_in zr1 64 ∧ w_X12_heavy l1 zr1 zM5 zN6 (fun zr7 zM8 zN9 => vp_in l2 64 ∧ ((¬ (((zN6 (3, 0, 24) zr1.toNatClampNeg) + (1000000 * zr7.toInt64)) + 1) = (zN9 (3, 0, 24) l2.toNatClampNeg) → zk15 l1 l2 (l3 + 1) zM8 zN9) ∧ ((((zN6 (3, 0, 24) zr1.toNatClampNeg) + (1000000 * zr7.toInt64)) + 1) = (zN9 (3, 0, 24) l2.toNatClampNeg) → post zr1 zM8 zN9)))))))))))
noncomputable def w_X12_nextOf_p15 (post : Int32 → am_I → am_N → Prop) (n : Nat) : Int32 → Int32 → Int32 → am_I → am_N → Prop :=
  Nat.rec (motive := fun _ => Int32 → Int32 → Int32 → am_I → am_N → Prop) (fun _ _ _ _ _ => False) (fun _ zk => w_X12_nextOf_p15_b post zk) n
theorem w_X12_nextOf_p15_s (post : Int32 → am_I → am_N → Prop) (n : Nat) (l1 : Int32) (l2 : Int32) (l3 : Int32) (M : am_I) (N : am_N) : w_X12_nextOf_p15 post (n + 1) l1 l2 l3 M N = w_X12_nextOf_p15_b post (w_X12_nextOf_p15 post n) l1 l2 l3 M N := rfl
set_option maxRecDepth 10000 in
theorem k_X12_nextOf_p15 {d : Nat} {dm : List am_C} (h3 : am_d3 dm) {post : Int32 → am_I → am_N → Prop} : ∀ (n : Nat) (l1 : Int32) (l2 : Int32) (l3 : Int32) (M : am_I) (N : am_N), w_X12_nextOf_p15 post n l1 l2 l3 M N → jg (d + 3) mX12_nextOf dm 15 [(0, .inr (.inr (3, 0, 0))), (1, .inl l1), (2, .inl l2), (3, .inl l3)] [] M N (am_pi post) := by
  intro n
  induction n with
  | zero => intro l1 l2 l3 M N h; exact h.elim
  | succ n zih =>
    intro l1 l2 l3 M N h
    replace h : w_X12_nextOf_p15_b post (w_X12_nextOf_p15 post n) l1 l2 l3 M N := h
    refine j_iload_n 3 dX12_nextOf_15 rfl ?_
    refine j_iconst (v := 4) dX12_nextOf_16 (by decide) ?_
    refine j_icmp_ge (tgt := 84) dX12_nextOf_17 (by decide) (fun hc => ?_) (fun hc => ?_)
    · replace h := h.1 hc
      refine j_iconst (v := (-1)) dX12_nextOf_84 (by decide) ?_
      exact j_iret dX12_nextOf_85 rfl ⟨_, rfl, h⟩
    · replace h := h.2 hc
      refine j_iload_n 2 dX12_nextOf_20 rfl ?_
      refine j_iload_n 3 dX12_nextOf_21 rfl ?_
      refine j_invS (As := [.inl l2, .inl l3]) dX12_nextOf_22 msRX12_257 mbX12_beside rfl rfl (Nat.le_of_ble_eq_true rfl) (Nat.le_of_ble_eq_true rfl) (by omega) (k_X12_beside (d := d + 1)  h) ?_
      rintro _ zM2 zN3 ⟨zr1, rfl, h⟩
      refine j_istore dX12_nextOf_25 (by decide) rfl ?_
      refine j_iload 0 dX12_nextOf_27 rfl ?_
      refine j_iconst (v := (-1)) dX12_nextOf_29 (by decide) ?_
      refine j_icmp_eq (tgt := 78) dX12_nextOf_30 (by decide) (fun hc => ?_) (fun hc => ?_)
      · replace h := h.1 hc
        refine j_iinc 4 dX12_nextOf_78 rfl rfl (by decide) rfl ?_
        refine j_goto (tgt := 15) dX12_nextOf_81 (by decide) ?_
        refine j_sub [2, 3, 4, 0] rfl ?_
        exact zih _ _ _ _ _ h
      · replace h := h.2 hc
        refine j_aload_n 1 dX12_nextOf_33 rfl ?_
        refine j_iload_n 2 dX12_nextOf_34 rfl ?_
        refine j_iload 0 dX12_nextOf_35 rfl ?_
        refine j_invV (As := [.inl l1, .inl zr1]) dX12_nextOf_37 msRX12_254 mbX12_mayEnter rfl rfl (Nat.le_of_ble_eq_true rfl) (Nat.le_of_ble_eq_true rfl) (by omega) (h3 0 (by decide)) rfl rfl (k_X12_mayEnter (d := d + 0) h3 h) ?_
        rintro _ zM5 zN6 ⟨zr4, rfl, h⟩
        refine j_if_eq (tgt := 78) dX12_nextOf_40 (by decide) (fun hc => ?_) (fun hc => ?_)
        · replace h := h.1 hc
          refine j_iinc 4 dX12_nextOf_78 rfl rfl (by decide) rfl ?_
          refine j_goto (tgt := 15) dX12_nextOf_81 (by decide) ?_
          refine j_sub [2, 3, 4, 0] rfl ?_
          exact zih _ _ _ _ _ h
        · replace h := h.2 hc
          refine j_aload_n 1 dX12_nextOf_43 rfl ?_
          refine j_getR (b := (3, 0, 24)) dX12_nextOf_44 fsRX12_85 (h3 0 (by decide)) rfl rfl ?_
          refine j_iload 0 dX12_nextOf_47 rfl ?_
          obtain ⟨hq, h⟩ := h
          refine j_lald dX12_nextOf_49 (h3 24 (by decide)) rfl hq ?_
          refine j_ldc2 (v := 1000000) dX12_nextOf_50 cw_1671 ?_
          refine j_aload_n 1 dX12_nextOf_53 rfl ?_
          refine j_iload_n 2 dX12_nextOf_54 rfl ?_
          refine j_iload 0 dX12_nextOf_55 rfl ?_
          refine j_invV (As := [.inl l1, .inl zr1]) dX12_nextOf_57 msRX12_241 mbX12_heavy rfl rfl (Nat.le_of_ble_eq_true rfl) (Nat.le_of_ble_eq_true rfl) (by omega) (h3 0 (by decide)) rfl rfl (k_X12_heavy (d := d + 1) h3 h) ?_
          rintro _ zM8 zN9 ⟨zr7, rfl, h⟩
          refine j_i2l dX12_nextOf_60 ?_
          refine j_lmul dX12_nextOf_61 ?_
          refine j_ladd dX12_nextOf_62 ?_
          refine j_lconst (v := 1) dX12_nextOf_63 (by decide) ?_
          refine j_ladd dX12_nextOf_64 ?_
          refine j_aload_n 1 dX12_nextOf_65 rfl ?_
          refine j_getR (b := (3, 0, 24)) dX12_nextOf_66 fsRX12_85 (h3 0 (by decide)) rfl rfl ?_
          refine j_iload_n 3 dX12_nextOf_69 rfl ?_
          obtain ⟨hq, h⟩ := h
          refine j_lald dX12_nextOf_70 (h3 24 (by decide)) rfl hq ?_
          refine j_lcmp_ne (tgt := 78) dX12_nextOf_71 dX12_nextOf_72 (by decide) (fun hc => ?_) (fun hc => ?_)
          · replace h := h.1 hc
            refine j_iinc 4 dX12_nextOf_78 rfl rfl (by decide) rfl ?_
            refine j_goto (tgt := 15) dX12_nextOf_81 (by decide) ?_
            refine j_sub [2, 3, 4, 0] rfl ?_
            exact zih _ _ _ _ _ h
          · replace h := h.2 hc
            refine j_iload 0 dX12_nextOf_75 rfl ?_
            exact j_iret dX12_nextOf_77 rfl ⟨_, rfl, h⟩
def w_X12_nextOf (a1 : Int32) (a2 : Int32) (M : am_I) (N : am_N) (post : Int32 → am_I → am_N → Prop) : Prop :=
  vp_in a2 64 ∧ ((¬ (N (3, 0, 24) a2.toNatClampNeg) = 0 → ∃ n, w_X12_nextOf_p15 post n a1 a2 0 M N) ∧ ((N (3, 0, 24) a2.toNatClampNeg) = 0 → post a2 M N))
set_option maxRecDepth 10000 in
theorem k_X12_nextOf {d : Nat} {dm : List am_C} (h3 : am_d3 dm) {a1 : Int32} {a2 : Int32} {M : am_I} {N : am_N} {post : Int32 → am_I → am_N → Prop} (h : w_X12_nextOf a1 a2 M N post) : jg (d + 3) mX12_nextOf dm 0 [(0, .inr (.inr (3, 0, 0))), (1, .inl a1), (2, .inl a2)] [] M N (am_pi post) := by
  refine j_aload_n 0 dX12_nextOf_0 rfl ?_
  refine j_getR (b := (3, 0, 24)) dX12_nextOf_1 fsRX12_85 (h3 0 (by decide)) rfl rfl ?_
  refine j_iload_n 2 dX12_nextOf_4 rfl ?_
  obtain ⟨hq, h⟩ := h
  refine j_lald dX12_nextOf_5 (h3 24 (by decide)) rfl hq ?_
  refine j_lconst (v := 0) dX12_nextOf_6 (by decide) ?_
  refine j_lcmp_ne (tgt := 13) dX12_nextOf_7 dX12_nextOf_8 (by decide) (fun hc => ?_) (fun hc => ?_)
  · replace h := h.1 hc
    refine j_iconst (v := 0) dX12_nextOf_13 (by decide) ?_
    refine j_istore_n dX12_nextOf_14 (by decide) rfl ?_
    refine j_sub [1, 2, 3, 0] rfl ?_
    obtain ⟨n, h⟩ := h
    exact k_X12_nextOf_p15 h3 n _ _ _ _ _ h
  · replace h := h.2 hc
    refine j_iload_n 2 dX12_nextOf_11 rfl ?_
    exact j_iret dX12_nextOf_12 rfl ⟨_, rfl, h⟩
def w_X12_rains_p54_b (post : am_I → am_N → Prop) (zk2 : Int32 → am_I → am_N → Prop) (zk54 : Int32 → Int32 → am_I → am_N → Prop) (l1 : Int32) (l2 : Int32) (M : am_I) (N : am_N) : Prop :=
  ((64 ≤ l2 → vp_in l1 30 ∧ zk2 (l1 + 1) M (am_ul N (3, 0, 0) 2 ((N (3, 0, 0) 2) + ((64 * (M (3, 0, 10) l1.toNatClampNeg)).toInt64)))) ∧ (¬ 64 ≤ l2 → vp_in (64 + l2) 1635 ∧ vp_in l1 30 ∧ vp_in (64 + l2) 1635 ∧ zk54 l1 (l2 + 1) (am_u M (3, 0, 1) (64 + l2).toNatClampNeg ((M (3, 0, 1) (64 + l2).toNatClampNeg) + (M (3, 0, 10) l1.toNatClampNeg))) N))
noncomputable def w_X12_rains_p54 (post : am_I → am_N → Prop) (zk2 : Int32 → am_I → am_N → Prop) (n : Nat) : Int32 → Int32 → am_I → am_N → Prop :=
  Nat.rec (motive := fun _ => Int32 → Int32 → am_I → am_N → Prop) (fun _ _ _ _ => False) (fun _ zk => w_X12_rains_p54_b post zk2 zk) n
theorem w_X12_rains_p54_s (post : am_I → am_N → Prop) (zk2 : Int32 → am_I → am_N → Prop) (n : Nat) (l1 : Int32) (l2 : Int32) (M : am_I) (N : am_N) : w_X12_rains_p54 post zk2 (n + 1) l1 l2 M N = w_X12_rains_p54_b post zk2 (w_X12_rains_p54 post zk2 n) l1 l2 M N := rfl
set_option maxRecDepth 10000 in
theorem k_X12_rains_p54 {d : Nat} {dm : List am_C} (h3 : am_d3 dm) {post : am_I → am_N → Prop} {zk2 : Int32 → am_I → am_N → Prop} (zhk2 : ∀ (l1 : Int32) (M : am_I) (N : am_N), zk2 l1 M N → jg (d + 2) mX12_rains dm 2 [(0, .inr (.inr (3, 0, 0))), (1, .inl l1)] [] M N (am_pv post)) : ∀ (n : Nat) (l1 : Int32) (l2 : Int32) (M : am_I) (N : am_N), w_X12_rains_p54 post zk2 n l1 l2 M N → jg (d + 2) mX12_rains dm 54 [(0, .inr (.inr (3, 0, 0))), (1, .inl l1), (2, .inl l2)] [] M N (am_pv post) := by
  intro n
  induction n with
  | zero => intro l1 l2 M N h; exact h.elim
  | succ n zih =>
    intro l1 l2 M N h
    replace h : w_X12_rains_p54_b post zk2 (w_X12_rains_p54 post zk2 n) l1 l2 M N := h
    refine j_iload_n 2 dX12_rains_54 rfl ?_
    refine j_bipush (v := 64) dX12_rains_55 (by decide) ?_
    refine j_icmp_ge (tgt := 84) dX12_rains_57 (by decide) (fun hc => ?_) (fun hc => ?_)
    · replace h := h.1 hc
      refine j_aload_n 0 dX12_rains_84 rfl ?_
      refine j_dup dX12_rains_85 rfl ?_
      refine j_getL dX12_rains_86 fsRX12_155 (h3 0 (by decide)) rfl ?_
      refine j_bipush (v := 64) dX12_rains_89 (by decide) ?_
      refine j_aload_n 0 dX12_rains_91 rfl ?_
      refine j_getR (b := (3, 0, 10)) dX12_rains_92 fsRX12_37 (h3 0 (by decide)) rfl rfl ?_
      refine j_iload_n 1 dX12_rains_95 rfl ?_
      obtain ⟨hq, h⟩ := h
      refine j_iald dX12_rains_96 (h3 10 (by decide)) rfl hq ?_
      refine j_imul dX12_rains_97 ?_
      refine j_i2l dX12_rains_98 ?_
      refine j_ladd dX12_rains_99 ?_
      refine j_putL dX12_rains_100 fwRX12_155 (h3 0 (by decide)) rfl ?_
      refine j_iinc 1 dX12_rains_103 rfl rfl (by decide) rfl ?_
      refine j_goto (tgt := 2) dX12_rains_106 (by decide) ?_
      refine j_sub [1, 0] rfl ?_
      exact zhk2 _ _ _ h
    · replace h := h.2 hc
      refine j_aload_n 0 dX12_rains_60 rfl ?_
      refine j_getR (b := (3, 0, 1)) dX12_rains_61 fsRX12_7 (h3 0 (by decide)) rfl rfl ?_
      refine j_bipush (v := 64) dX12_rains_64 (by decide) ?_
      refine j_iload_n 2 dX12_rains_66 rfl ?_
      refine j_iadd dX12_rains_67 ?_
      refine j_dup2 dX12_rains_68 rfl rfl ?_
      obtain ⟨hq, h⟩ := h
      refine j_iald dX12_rains_69 (h3 1 (by decide)) rfl hq ?_
      refine j_aload_n 0 dX12_rains_70 rfl ?_
      refine j_getR (b := (3, 0, 10)) dX12_rains_71 fsRX12_37 (h3 0 (by decide)) rfl rfl ?_
      refine j_iload_n 1 dX12_rains_74 rfl ?_
      obtain ⟨hq, h⟩ := h
      refine j_iald dX12_rains_75 (h3 10 (by decide)) rfl hq ?_
      refine j_iadd dX12_rains_76 ?_
      obtain ⟨hq, h⟩ := h
      refine j_iast dX12_rains_77 (h3 1 (by decide)) rfl hq ?_
      refine j_iinc 2 dX12_rains_78 rfl rfl (by decide) rfl ?_
      refine j_goto (tgt := 54) dX12_rains_81 (by decide) ?_
      refine j_sub [1, 2, 0] rfl ?_
      exact zih _ _ _ _ h
def w_X12_rains_p2_b (post : am_I → am_N → Prop) (zk2 : Int32 → am_I → am_N → Prop) (l1 : Int32) (M : am_I) (N : am_N) : Prop :=
  (((M (3, 0, 1) 1630) ≤ l1 → post M N) ∧ (¬ (M (3, 0, 1) 1630) ≤ l1 → w_X12_isBut 0 l1 M N (fun zr1 zM2 zN3 => ((¬ zr1 = 0 → zk2 (l1 + 1) zM2 zN3) ∧ (zr1 = 0 → vp_in l1 30 ∧ vp_in l1 30 ∧ w_X12_isIn (zM2 (3, 0, 1) 1624) (zM2 (3, 0, 8) l1.toNatClampNeg) (zM2 (3, 0, 9) l1.toNatClampNeg) zM2 zN3 (fun zr4 zM5 zN6 => ((¬ zr4 = 0 → ∃ n, w_X12_rains_p54 post zk2 n l1 0 zM5 zN6) ∧ (zr4 = 0 → zk2 (l1 + 1) zM5 zN6))))))))
noncomputable def w_X12_rains_p2 (post : am_I → am_N → Prop) (n : Nat) : Int32 → am_I → am_N → Prop :=
  Nat.rec (motive := fun _ => Int32 → am_I → am_N → Prop) (fun _ _ _ => False) (fun _ zk => w_X12_rains_p2_b post zk) n
theorem w_X12_rains_p2_s (post : am_I → am_N → Prop) (n : Nat) (l1 : Int32) (M : am_I) (N : am_N) : w_X12_rains_p2 post (n + 1) l1 M N = w_X12_rains_p2_b post (w_X12_rains_p2 post n) l1 M N := rfl
set_option maxRecDepth 10000 in
theorem k_X12_rains_p2 {d : Nat} {dm : List am_C} (h3 : am_d3 dm) {post : am_I → am_N → Prop} : ∀ (n : Nat) (l1 : Int32) (M : am_I) (N : am_N), w_X12_rains_p2 post n l1 M N → jg (d + 2) mX12_rains dm 2 [(0, .inr (.inr (3, 0, 0))), (1, .inl l1)] [] M N (am_pv post) := by
  intro n
  induction n with
  | zero => intro l1 M N h; exact h.elim
  | succ n zih =>
    intro l1 M N h
    replace h : w_X12_rains_p2_b post (w_X12_rains_p2 post n) l1 M N := h
    refine j_iload_n 1 dX12_rains_2 rfl ?_
    refine j_aload_n 0 dX12_rains_3 rfl ?_
    refine j_getR (b := (3, 0, 1)) dX12_rains_4 fsRX12_7 (h3 0 (by decide)) rfl rfl ?_
    refine j_sipush (v := 1630) dX12_rains_7 (by decide) ?_
    refine j_iald dX12_rains_10 (h3 1 (by decide)) rfl (by unfold vp_in; decide) ?_
    refine j_icmp_ge (tgt := 109) dX12_rains_11 (by decide) (fun hc => ?_) (fun hc => ?_)
    · replace h := h.1 hc
      exact j_vret dX12_rains_109 rfl ⟨rfl, h⟩
    · replace h := h.2 hc
      refine j_aload_n 0 dX12_rains_14 rfl ?_
      refine j_iconst (v := 0) dX12_rains_15 (by decide) ?_
      refine j_iload_n 1 dX12_rains_16 rfl ?_
      refine j_invV (As := [.inl 0, .inl l1]) dX12_rains_17 msRX12_188 mbX12_isBut rfl rfl (Nat.le_of_ble_eq_true rfl) (Nat.le_of_ble_eq_true rfl) (by omega) (h3 0 (by decide)) rfl rfl (k_X12_isBut (d := d + 0) h3 h) ?_
      rintro _ zM2 zN3 ⟨zr1, rfl, h⟩
      refine j_if_ne (tgt := 103) dX12_rains_20 (by decide) (fun hc => ?_) (fun hc => ?_)
      · replace h := h.1 hc
        refine j_iinc 1 dX12_rains_103 rfl rfl (by decide) rfl ?_
        refine j_goto (tgt := 2) dX12_rains_106 (by decide) ?_
        refine j_sub [1, 0] rfl ?_
        exact zih _ _ _ h
      · replace h := h.2 hc
        refine j_aload_n 0 dX12_rains_23 rfl ?_
        refine j_getR (b := (3, 0, 1)) dX12_rains_24 fsRX12_7 (h3 0 (by decide)) rfl rfl ?_
        refine j_sipush (v := 1624) dX12_rains_27 (by decide) ?_
        refine j_iald dX12_rains_30 (h3 1 (by decide)) rfl (by unfold vp_in; decide) ?_
        refine j_aload_n 0 dX12_rains_31 rfl ?_
        refine j_getR (b := (3, 0, 8)) dX12_rains_32 fsRX12_31 (h3 0 (by decide)) rfl rfl ?_
        refine j_iload_n 1 dX12_rains_35 rfl ?_
        obtain ⟨hq, h⟩ := h
        refine j_iald dX12_rains_36 (h3 8 (by decide)) rfl hq ?_
        refine j_aload_n 0 dX12_rains_37 rfl ?_
        refine j_getR (b := (3, 0, 9)) dX12_rains_38 fsRX12_34 (h3 0 (by decide)) rfl rfl ?_
        refine j_iload_n 1 dX12_rains_41 rfl ?_
        obtain ⟨hq, h⟩ := h
        refine j_iald dX12_rains_42 (h3 9 (by decide)) rfl hq ?_
        refine j_invS (As := [.inl (zM2 (3, 0, 1) 1624), .inl (zM2 (3, 0, 8) l1.toNatClampNeg), .inl (zM2 (3, 0, 9) l1.toNatClampNeg)]) dX12_rains_43 msRX12_162 mbX12_isIn rfl rfl (Nat.le_of_ble_eq_true rfl) (Nat.le_of_ble_eq_true rfl) (by omega) (k_X12_isIn (d := d + 0)  h) ?_
        rintro _ zM5 zN6 ⟨zr4, rfl, h⟩
        refine j_if_ne (tgt := 52) dX12_rains_46 (by decide) (fun hc => ?_) (fun hc => ?_)
        · replace h := h.1 hc
          refine j_iconst (v := 0) dX12_rains_52 (by decide) ?_
          refine j_istore_n dX12_rains_53 (by decide) rfl ?_
          refine j_sub [1, 2, 0] rfl ?_
          obtain ⟨n, h⟩ := h
          exact k_X12_rains_p54 h3 zih n _ _ _ _ h
        · replace h := h.2 hc
          refine j_goto (tgt := 103) dX12_rains_49 (by decide) ?_
          refine j_iinc 1 dX12_rains_103 rfl rfl (by decide) rfl ?_
          refine j_goto (tgt := 2) dX12_rains_106 (by decide) ?_
          refine j_sub [1, 0] rfl ?_
          exact zih _ _ _ h
def w_X12_rains (M : am_I) (N : am_N) (post : am_I → am_N → Prop) : Prop :=
  ∃ n, w_X12_rains_p2 post n 0 M N
set_option maxRecDepth 10000 in
theorem k_X12_rains {d : Nat} {dm : List am_C} (h3 : am_d3 dm) {M : am_I} {N : am_N} {post : am_I → am_N → Prop} (h : w_X12_rains M N post) : jg (d + 2) mX12_rains dm 0 [(0, .inr (.inr (3, 0, 0)))] [] M N (am_pv post) := by
  refine j_iconst (v := 0) dX12_rains_0 (by decide) ?_
  refine j_istore_n dX12_rains_1 (by decide) rfl ?_
  refine j_sub [1, 0] rfl ?_
  obtain ⟨n, h⟩ := h
  exact k_X12_rains_p2 h3 n _ _ _ h
def w_X12_flows_p169_b (post : am_I → am_N → Prop) (zk169 : Int32 → am_I → am_N → Prop) (l1 : Int32) (M : am_I) (N : am_N) : Prop :=
  ((64 ≤ l1 → post M N) ∧ (¬ 64 ≤ l1 → vp_in (64 + l1) 1635 ∧ vp_in l1 64 ∧ vp_in (64 + l1) 1635 ∧ zk169 (l1 + 1) (am_u M (3, 0, 1) (64 + l1).toNatClampNeg ((M (3, 0, 1) (64 + l1).toNatClampNeg) + (M (3, 0, 26) l1.toNatClampNeg))) N))
noncomputable def w_X12_flows_p169 (post : am_I → am_N → Prop) (n : Nat) : Int32 → am_I → am_N → Prop :=
  Nat.rec (motive := fun _ => Int32 → am_I → am_N → Prop) (fun _ _ _ => False) (fun _ zk => w_X12_flows_p169_b post zk) n
theorem w_X12_flows_p169_s (post : am_I → am_N → Prop) (n : Nat) (l1 : Int32) (M : am_I) (N : am_N) : w_X12_flows_p169 post (n + 1) l1 M N = w_X12_flows_p169_b post (w_X12_flows_p169 post n) l1 M N := rfl
set_option maxRecDepth 10000 in
theorem k_X12_flows_p169 {d : Nat} {dm : List am_C} (h3 : am_d3 dm) {post : am_I → am_N → Prop} : ∀ (n : Nat) (l1 : Int32) (M : am_I) (N : am_N), w_X12_flows_p169 post n l1 M N → jg (d + 2) mX12_flows dm 169 [(0, .inr (.inr (3, 0, 0))), (1, .inl l1)] [] M N (am_pv post) := by
  intro n
  induction n with
  | zero => intro l1 M N h; exact h.elim
  | succ n zih =>
    intro l1 M N h
    replace h : w_X12_flows_p169_b post (w_X12_flows_p169 post n) l1 M N := h
    refine j_iload_n 1 dX12_flows_169 rfl ?_
    refine j_bipush (v := 64) dX12_flows_170 (by decide) ?_
    refine j_icmp_ge (tgt := 199) dX12_flows_172 (by decide) (fun hc => ?_) (fun hc => ?_)
    · replace h := h.1 hc
      exact j_vret dX12_flows_199 rfl ⟨rfl, h⟩
    · replace h := h.2 hc
      refine j_aload_n 0 dX12_flows_175 rfl ?_
      refine j_getR (b := (3, 0, 1)) dX12_flows_176 fsRX12_7 (h3 0 (by decide)) rfl rfl ?_
      refine j_bipush (v := 64) dX12_flows_179 (by decide) ?_
      refine j_iload_n 1 dX12_flows_181 rfl ?_
      refine j_iadd dX12_flows_182 ?_
      refine j_dup2 dX12_flows_183 rfl rfl ?_
      obtain ⟨hq, h⟩ := h
      refine j_iald dX12_flows_184 (h3 1 (by decide)) rfl hq ?_
      refine j_aload_n 0 dX12_flows_185 rfl ?_
      refine j_getR (b := (3, 0, 26)) dX12_flows_186 fsRX12_91 (h3 0 (by decide)) rfl rfl ?_
      refine j_iload_n 1 dX12_flows_189 rfl ?_
      obtain ⟨hq, h⟩ := h
      refine j_iald dX12_flows_190 (h3 26 (by decide)) rfl hq ?_
      refine j_iadd dX12_flows_191 ?_
      obtain ⟨hq, h⟩ := h
      refine j_iast dX12_flows_192 (h3 1 (by decide)) rfl hq ?_
      refine j_iinc 1 dX12_flows_193 rfl rfl (by decide) rfl ?_
      refine j_goto (tgt := 169) dX12_flows_196 (by decide) ?_
      refine j_sub [1, 0] rfl ?_
      exact zih _ _ _ h
def w_X12_flows_p92 (post : am_I → am_N → Prop) (zk23 : Int32 → am_I → am_N → Prop) (zk50 : Int32 → Int32 → Int32 → am_I → am_N → Prop) (l1 : Int32) (l3 : Int32) (M : am_I) (N : am_N) : Prop :=
  w_X12_beside l1 l3 M N (fun zr1 zM2 zN3 => zk50 l1 zr1 (l3 + 1) zM2 zN3)
set_option maxRecDepth 10000 in
theorem k_X12_flows_p92 {d : Nat} {dm : List am_C} (h3 : am_d3 dm) {post : am_I → am_N → Prop} {zk23 : Int32 → am_I → am_N → Prop} {zk50 : Int32 → Int32 → Int32 → am_I → am_N → Prop} (zhk23 : ∀ (l1 : Int32) (M : am_I) (N : am_N), zk23 l1 M N → jg (d + 2) mX12_flows dm 23 [(0, .inr (.inr (3, 0, 0))), (1, .inl l1)] [] M N (am_pv post)) (zhk50 : ∀ (l1 : Int32) (l2 : Int32) (l3 : Int32) (M : am_I) (N : am_N), zk50 l1 l2 l3 M N → jg (d + 2) mX12_flows dm 50 [(0, .inr (.inr (3, 0, 0))), (1, .inl l1), (2, .inl l2), (3, .inl l3)] [] M N (am_pv post)) (l1 : Int32) (l3 : Int32) (M : am_I) (N : am_N) (h : w_X12_flows_p92 post zk23 zk50 l1 l3 M N) : jg (d + 2) mX12_flows dm 92 [(0, .inr (.inr (3, 0, 0))), (1, .inl l1), (3, .inl l3)] [] M N (am_pv post) := by
  refine j_iload_n 1 dX12_flows_92 rfl ?_
  refine j_iload_n 2 dX12_flows_93 rfl ?_
  refine j_invS (As := [.inl l1, .inl l3]) dX12_flows_94 msRX12_257 mbX12_beside rfl rfl (Nat.le_of_ble_eq_true rfl) (Nat.le_of_ble_eq_true rfl) (by omega) (k_X12_beside (d := d + 0)  h) ?_
  rintro _ zM2 zN3 ⟨zr1, rfl, h⟩
  refine j_istore_n dX12_flows_97 (by decide) rfl ?_
  refine j_iinc 3 dX12_flows_98 rfl rfl (by decide) rfl ?_
  refine j_goto (tgt := 50) dX12_flows_101 (by decide) ?_
  refine j_sub [2, 3, 1, 0] rfl ?_
  exact zhk50 _ _ _ _ _ h
def w_X12_flows_p50_b (post : am_I → am_N → Prop) (zk23 : Int32 → am_I → am_N → Prop) (zk50 : Int32 → Int32 → Int32 → am_I → am_N → Prop) (l1 : Int32) (l2 : Int32) (l3 : Int32) (M : am_I) (N : am_N) : Prop :=
  ((4 ≤ l3 → vp_in (0 + l2) 1635 ∧ vp_in (0 + l1) 1635 ∧ (((M (3, 0, 1) (0 + l2).toNatClampNeg) < (M (3, 0, 1) (0 + l1).toNatClampNeg) → vp_in (64 + l1) 1635 ∧ ∀ zv1 : Int32, zv1 = ((M (3, 0, 1) (64 + l1).toNatClampNeg) - 100) / 2 → vp_in l1 64 ∧ vp_in l1 64 ∧ vp_in l2 64 ∧ vp_in l2 64 ∧ zk23 (l1 + 1) (am_u (am_u M (3, 0, 26) l1.toNatClampNeg ((M (3, 0, 26) l1.toNatClampNeg) - zv1)) (3, 0, 26) l2.toNatClampNeg (((am_u M (3, 0, 26) l1.toNatClampNeg ((M (3, 0, 26) l1.toNatClampNeg) - zv1)) (3, 0, 26) l2.toNatClampNeg) + zv1)) N) ∧ (¬ (M (3, 0, 1) (0 + l2).toNatClampNeg) < (M (3, 0, 1) (0 + l1).toNatClampNeg) → zk23 (l1 + 1) M N))) ∧ (¬ 4 ≤ l3 → w_X12_beside l1 l3 M N (fun zr2 zM3 zN4 => ((zr2 = (-1) → zk50 l1 l2 (l3 + 1) zM3 zN4) ∧ (¬ zr2 = (-1) → ((l2 = (-1) → w_X12_flows_p92 post zk23 zk50 l1 l3 zM3 zN4) ∧ (¬ l2 = (-1) → w_X12_beside l1 l3 zM3 zN4 (fun zr5 zM6 zN7 => vp_in (0 + zr5) 1635 ∧ vp_in (0 + l2) 1635 ∧ (((zM6 (3, 0, 1) (0 + l2).toNatClampNeg) ≤ (zM6 (3, 0, 1) (0 + zr5).toNatClampNeg) → zk50 l1 l2 (l3 + 1) zM6 zN7) ∧ (¬ (zM6 (3, 0, 1) (0 + l2).toNatClampNeg) ≤ (zM6 (3, 0, 1) (0 + zr5).toNatClampNeg) → w_X12_flows_p92 post zk23 zk50 l1 l3 zM6 zN7))))))))))
noncomputable def w_X12_flows_p50 (post : am_I → am_N → Prop) (zk23 : Int32 → am_I → am_N → Prop) (n : Nat) : Int32 → Int32 → Int32 → am_I → am_N → Prop :=
  Nat.rec (motive := fun _ => Int32 → Int32 → Int32 → am_I → am_N → Prop) (fun _ _ _ _ _ => False) (fun _ zk => w_X12_flows_p50_b post zk23 zk) n
theorem w_X12_flows_p50_s (post : am_I → am_N → Prop) (zk23 : Int32 → am_I → am_N → Prop) (n : Nat) (l1 : Int32) (l2 : Int32) (l3 : Int32) (M : am_I) (N : am_N) : w_X12_flows_p50 post zk23 (n + 1) l1 l2 l3 M N = w_X12_flows_p50_b post zk23 (w_X12_flows_p50 post zk23 n) l1 l2 l3 M N := rfl
set_option maxRecDepth 10000 in
theorem k_X12_flows_p50 {d : Nat} {dm : List am_C} (h3 : am_d3 dm) {post : am_I → am_N → Prop} {zk23 : Int32 → am_I → am_N → Prop} (zhk23 : ∀ (l1 : Int32) (M : am_I) (N : am_N), zk23 l1 M N → jg (d + 2) mX12_flows dm 23 [(0, .inr (.inr (3, 0, 0))), (1, .inl l1)] [] M N (am_pv post)) : ∀ (n : Nat) (l1 : Int32) (l2 : Int32) (l3 : Int32) (M : am_I) (N : am_N), w_X12_flows_p50 post zk23 n l1 l2 l3 M N → jg (d + 2) mX12_flows dm 50 [(0, .inr (.inr (3, 0, 0))), (1, .inl l1), (2, .inl l2), (3, .inl l3)] [] M N (am_pv post) := by
  intro n
  induction n with
  | zero => intro l1 l2 l3 M N h; exact h.elim
  | succ n zih =>
    intro l1 l2 l3 M N h
    replace h : w_X12_flows_p50_b post zk23 (w_X12_flows_p50 post zk23 n) l1 l2 l3 M N := h
    refine j_iload_n 3 dX12_flows_50 rfl ?_
    refine j_iconst (v := 4) dX12_flows_51 (by decide) ?_
    refine j_icmp_ge (tgt := 104) dX12_flows_52 (by decide) (fun hc => ?_) (fun hc => ?_)
    · replace h := h.1 hc
      refine j_aload_n 0 dX12_flows_104 rfl ?_
      refine j_getR (b := (3, 0, 1)) dX12_flows_105 fsRX12_7 (h3 0 (by decide)) rfl rfl ?_
      refine j_iconst (v := 0) dX12_flows_108 (by decide) ?_
      refine j_iload_n 2 dX12_flows_109 rfl ?_
      refine j_iadd dX12_flows_110 ?_
      obtain ⟨hq, h⟩ := h
      refine j_iald dX12_flows_111 (h3 1 (by decide)) rfl hq ?_
      refine j_aload_n 0 dX12_flows_112 rfl ?_
      refine j_getR (b := (3, 0, 1)) dX12_flows_113 fsRX12_7 (h3 0 (by decide)) rfl rfl ?_
      refine j_iconst (v := 0) dX12_flows_116 (by decide) ?_
      refine j_iload_n 1 dX12_flows_117 rfl ?_
      refine j_iadd dX12_flows_118 ?_
      obtain ⟨hq, h⟩ := h
      refine j_iald dX12_flows_119 (h3 1 (by decide)) rfl hq ?_
      refine j_icmp_lt (tgt := 126) dX12_flows_120 (by decide) (fun hc => ?_) (fun hc => ?_)
      · replace h := h.1 hc
        refine j_aload_n 0 dX12_flows_126 rfl ?_
        refine j_getR (b := (3, 0, 1)) dX12_flows_127 fsRX12_7 (h3 0 (by decide)) rfl rfl ?_
        refine j_bipush (v := 64) dX12_flows_130 (by decide) ?_
        refine j_iload_n 1 dX12_flows_132 rfl ?_
        refine j_iadd dX12_flows_133 ?_
        obtain ⟨hq, h⟩ := h
        refine j_iald dX12_flows_134 (h3 1 (by decide)) rfl hq ?_
        refine j_bipush (v := 100) dX12_flows_135 (by decide) ?_
        refine j_isub dX12_flows_137 ?_
        refine j_iconst (v := 2) dX12_flows_138 (by decide) ?_
        refine j_idiv dX12_flows_139 (by decide) ?_
        refine j_topi (fun zv1 hzv1 => ?_)
        replace h := h zv1 hzv1
        refine j_istore_n dX12_flows_140 (by decide) rfl ?_
        refine j_aload_n 1 dX12_flows_141 rfl ?_
        refine j_getR (b := (3, 0, 26)) dX12_flows_142 fsRX12_91 (h3 0 (by decide)) rfl rfl ?_
        refine j_iload_n 2 dX12_flows_145 rfl ?_
        refine j_dup2 dX12_flows_146 rfl rfl ?_
        obtain ⟨hq, h⟩ := h
        refine j_iald dX12_flows_147 (h3 26 (by decide)) rfl hq ?_
        refine j_iload_n 0 dX12_flows_148 rfl ?_
        refine j_isub dX12_flows_149 ?_
        obtain ⟨hq, h⟩ := h
        refine j_iast dX12_flows_150 (h3 26 (by decide)) rfl hq ?_
        refine j_aload_n 1 dX12_flows_151 rfl ?_
        refine j_getR (b := (3, 0, 26)) dX12_flows_152 fsRX12_91 (h3 0 (by decide)) rfl rfl ?_
        refine j_iload_n 3 dX12_flows_155 rfl ?_
        refine j_dup2 dX12_flows_156 rfl rfl ?_
        obtain ⟨hq, h⟩ := h
        refine j_iald dX12_flows_157 (h3 26 (by decide)) rfl hq ?_
        refine j_iload_n 0 dX12_flows_158 rfl ?_
        refine j_iadd dX12_flows_159 ?_
        obtain ⟨hq, h⟩ := h
        refine j_iast dX12_flows_160 (h3 26 (by decide)) rfl hq ?_
        refine j_iinc 2 dX12_flows_161 rfl rfl (by decide) rfl ?_
        refine j_goto (tgt := 23) dX12_flows_164 (by decide) ?_
        refine j_sub [2, 0] rfl ?_
        exact zhk23 _ _ _ h
      · replace h := h.2 hc
        refine j_goto (tgt := 161) dX12_flows_123 (by decide) ?_
        refine j_iinc 1 dX12_flows_161 rfl rfl (by decide) rfl ?_
        refine j_goto (tgt := 23) dX12_flows_164 (by decide) ?_
        refine j_sub [1, 0] rfl ?_
        exact zhk23 _ _ _ h
    · replace h := h.2 hc
      refine j_iload_n 1 dX12_flows_55 rfl ?_
      refine j_iload_n 3 dX12_flows_56 rfl ?_
      refine j_invS (As := [.inl l1, .inl l3]) dX12_flows_57 msRX12_257 mbX12_beside rfl rfl (Nat.le_of_ble_eq_true rfl) (Nat.le_of_ble_eq_true rfl) (by omega) (k_X12_beside (d := d + 0)  h) ?_
      rintro _ zM3 zN4 ⟨zr2, rfl, h⟩
      refine j_iconst (v := (-1)) dX12_flows_60 (by decide) ?_
      refine j_icmp_eq (tgt := 98) dX12_flows_61 (by decide) (fun hc => ?_) (fun hc => ?_)
      · replace h := h.1 hc
        refine j_iinc 3 dX12_flows_98 rfl rfl (by decide) rfl ?_
        refine j_goto (tgt := 50) dX12_flows_101 (by decide) ?_
        refine j_sub [1, 2, 3, 0] rfl ?_
        exact zih _ _ _ _ _ h
      · replace h := h.2 hc
        refine j_iload_n 2 dX12_flows_64 rfl ?_
        refine j_iconst (v := (-1)) dX12_flows_65 (by decide) ?_
        refine j_icmp_eq (tgt := 92) dX12_flows_66 (by decide) (fun hc => ?_) (fun hc => ?_)
        · replace h := h.1 hc
          refine j_sub [0, 1, 3] rfl ?_
          exact k_X12_flows_p92 h3 zhk23 zih _ _ _ _ h
        · replace h := h.2 hc
          refine j_aload_n 0 dX12_flows_69 rfl ?_
          refine j_getR (b := (3, 0, 1)) dX12_flows_70 fsRX12_7 (h3 0 (by decide)) rfl rfl ?_
          refine j_iconst (v := 0) dX12_flows_73 (by decide) ?_
          refine j_iload_n 1 dX12_flows_74 rfl ?_
          refine j_iload_n 3 dX12_flows_75 rfl ?_
          refine j_invS (As := [.inl l1, .inl l3]) dX12_flows_76 msRX12_257 mbX12_beside rfl rfl (Nat.le_of_ble_eq_true rfl) (Nat.le_of_ble_eq_true rfl) (by omega) (k_X12_beside (d := d + 0)  h) ?_
          rintro _ zM6 zN7 ⟨zr5, rfl, h⟩
          refine j_iadd dX12_flows_79 ?_
          obtain ⟨hq, h⟩ := h
          refine j_iald dX12_flows_80 (h3 1 (by decide)) rfl hq ?_
          refine j_aload_n 0 dX12_flows_81 rfl ?_
          refine j_getR (b := (3, 0, 1)) dX12_flows_82 fsRX12_7 (h3 0 (by decide)) rfl rfl ?_
          refine j_iconst (v := 0) dX12_flows_85 (by decide) ?_
          refine j_iload_n 2 dX12_flows_86 rfl ?_
          refine j_iadd dX12_flows_87 ?_
          obtain ⟨hq, h⟩ := h
          refine j_iald dX12_flows_88 (h3 1 (by decide)) rfl hq ?_
          refine j_icmp_ge (tgt := 98) dX12_flows_89 (by decide) (fun hc => ?_) (fun hc => ?_)
          · replace h := h.1 hc
            refine j_iinc 3 dX12_flows_98 rfl rfl (by decide) rfl ?_
            refine j_goto (tgt := 50) dX12_flows_101 (by decide) ?_
            refine j_sub [1, 2, 3, 0] rfl ?_
            exact zih _ _ _ _ _ h
          · replace h := h.2 hc
            refine j_sub [0, 1, 3] rfl ?_
            exact k_X12_flows_p92 h3 zhk23 zih _ _ _ _ h
def w_X12_flows_p23_b (post : am_I → am_N → Prop) (zk23 : Int32 → am_I → am_N → Prop) (l1 : Int32) (M : am_I) (N : am_N) : Prop :=
  ((64 ≤ l1 → ∃ n, w_X12_flows_p169 post n 0 M N) ∧ (¬ 64 ≤ l1 → vp_in (64 + l1) 1635 ∧ ((100 < (M (3, 0, 1) (64 + l1).toNatClampNeg) → ∃ n, w_X12_flows_p50 post zk23 n l1 (-1) 0 M N) ∧ (¬ 100 < (M (3, 0, 1) (64 + l1).toNatClampNeg) → zk23 (l1 + 1) M N))))
noncomputable def w_X12_flows_p23 (post : am_I → am_N → Prop) (n : Nat) : Int32 → am_I → am_N → Prop :=
  Nat.rec (motive := fun _ => Int32 → am_I → am_N → Prop) (fun _ _ _ => False) (fun _ zk => w_X12_flows_p23_b post zk) n
theorem w_X12_flows_p23_s (post : am_I → am_N → Prop) (n : Nat) (l1 : Int32) (M : am_I) (N : am_N) : w_X12_flows_p23 post (n + 1) l1 M N = w_X12_flows_p23_b post (w_X12_flows_p23 post n) l1 M N := rfl
set_option maxRecDepth 10000 in
theorem k_X12_flows_p23 {d : Nat} {dm : List am_C} (h3 : am_d3 dm) {post : am_I → am_N → Prop} : ∀ (n : Nat) (l1 : Int32) (M : am_I) (N : am_N), w_X12_flows_p23 post n l1 M N → jg (d + 2) mX12_flows dm 23 [(0, .inr (.inr (3, 0, 0))), (1, .inl l1)] [] M N (am_pv post) := by
  intro n
  induction n with
  | zero => intro l1 M N h; exact h.elim
  | succ n zih =>
    intro l1 M N h
    replace h : w_X12_flows_p23_b post (w_X12_flows_p23 post n) l1 M N := h
    refine j_iload_n 1 dX12_flows_23 rfl ?_
    refine j_bipush (v := 64) dX12_flows_24 (by decide) ?_
    refine j_icmp_ge (tgt := 167) dX12_flows_26 (by decide) (fun hc => ?_) (fun hc => ?_)
    · replace h := h.1 hc
      refine j_iconst (v := 0) dX12_flows_167 (by decide) ?_
      refine j_istore_n dX12_flows_168 (by decide) rfl ?_
      refine j_sub [1, 0] rfl ?_
      obtain ⟨n, h⟩ := h
      exact k_X12_flows_p169 h3 n _ _ _ h
    · replace h := h.2 hc
      refine j_aload_n 0 dX12_flows_29 rfl ?_
      refine j_getR (b := (3, 0, 1)) dX12_flows_30 fsRX12_7 (h3 0 (by decide)) rfl rfl ?_
      refine j_bipush (v := 64) dX12_flows_33 (by decide) ?_
      refine j_iload_n 1 dX12_flows_35 rfl ?_
      refine j_iadd dX12_flows_36 ?_
      obtain ⟨hq, h⟩ := h
      refine j_iald dX12_flows_37 (h3 1 (by decide)) rfl hq ?_
      refine j_bipush (v := 100) dX12_flows_38 (by decide) ?_
      refine j_icmp_gt (tgt := 46) dX12_flows_40 (by decide) (fun hc => ?_) (fun hc => ?_)
      · replace h := h.1 hc
        refine j_iconst (v := (-1)) dX12_flows_46 (by decide) ?_
        refine j_istore_n dX12_flows_47 (by decide) rfl ?_
        refine j_iconst (v := 0) dX12_flows_48 (by decide) ?_
        refine j_istore_n dX12_flows_49 (by decide) rfl ?_
        refine j_sub [2, 3, 1, 0] rfl ?_
        obtain ⟨n, h⟩ := h
        exact k_X12_flows_p50 h3 zih n _ _ _ _ _ h
      · replace h := h.2 hc
        refine j_goto (tgt := 161) dX12_flows_43 (by decide) ?_
        refine j_iinc 1 dX12_flows_161 rfl rfl (by decide) rfl ?_
        refine j_goto (tgt := 23) dX12_flows_164 (by decide) ?_
        refine j_sub [1, 0] rfl ?_
        exact zih _ _ _ h
def w_X12_flows_p2_b (post : am_I → am_N → Prop) (zk2 : Int32 → am_I → am_N → Prop) (l1 : Int32) (M : am_I) (N : am_N) : Prop :=
  ((64 ≤ l1 → ∃ n, w_X12_flows_p23 post n 0 M N) ∧ (¬ 64 ≤ l1 → vp_in l1 64 ∧ zk2 (l1 + 1) (am_u M (3, 0, 26) l1.toNatClampNeg 0) N))
noncomputable def w_X12_flows_p2 (post : am_I → am_N → Prop) (n : Nat) : Int32 → am_I → am_N → Prop :=
  Nat.rec (motive := fun _ => Int32 → am_I → am_N → Prop) (fun _ _ _ => False) (fun _ zk => w_X12_flows_p2_b post zk) n
theorem w_X12_flows_p2_s (post : am_I → am_N → Prop) (n : Nat) (l1 : Int32) (M : am_I) (N : am_N) : w_X12_flows_p2 post (n + 1) l1 M N = w_X12_flows_p2_b post (w_X12_flows_p2 post n) l1 M N := rfl
set_option maxRecDepth 10000 in
theorem k_X12_flows_p2 {d : Nat} {dm : List am_C} (h3 : am_d3 dm) {post : am_I → am_N → Prop} : ∀ (n : Nat) (l1 : Int32) (M : am_I) (N : am_N), w_X12_flows_p2 post n l1 M N → jg (d + 2) mX12_flows dm 2 [(0, .inr (.inr (3, 0, 0))), (1, .inl l1)] [] M N (am_pv post) := by
  intro n
  induction n with
  | zero => intro l1 M N h; exact h.elim
  | succ n zih =>
    intro l1 M N h
    replace h : w_X12_flows_p2_b post (w_X12_flows_p2 post n) l1 M N := h
    refine j_iload_n 1 dX12_flows_2 rfl ?_
    refine j_bipush (v := 64) dX12_flows_3 (by decide) ?_
    refine j_icmp_ge (tgt := 21) dX12_flows_5 (by decide) (fun hc => ?_) (fun hc => ?_)
    · replace h := h.1 hc
      refine j_iconst (v := 0) dX12_flows_21 (by decide) ?_
      refine j_istore_n dX12_flows_22 (by decide) rfl ?_
      refine j_sub [1, 0] rfl ?_
      obtain ⟨n, h⟩ := h
      exact k_X12_flows_p23 h3 n _ _ _ h
    · replace h := h.2 hc
      refine j_aload_n 0 dX12_flows_8 rfl ?_
      refine j_getR (b := (3, 0, 26)) dX12_flows_9 fsRX12_91 (h3 0 (by decide)) rfl rfl ?_
      refine j_iload_n 1 dX12_flows_12 rfl ?_
      refine j_iconst (v := 0) dX12_flows_13 (by decide) ?_
      obtain ⟨hq, h⟩ := h
      refine j_iast dX12_flows_14 (h3 26 (by decide)) rfl hq ?_
      refine j_iinc 1 dX12_flows_15 rfl rfl (by decide) rfl ?_
      refine j_goto (tgt := 2) dX12_flows_18 (by decide) ?_
      refine j_sub [1, 0] rfl ?_
      exact zih _ _ _ h
def w_X12_flows (M : am_I) (N : am_N) (post : am_I → am_N → Prop) : Prop :=
  ∃ n, w_X12_flows_p2 post n 0 M N
set_option maxRecDepth 10000 in
theorem k_X12_flows {d : Nat} {dm : List am_C} (h3 : am_d3 dm) {M : am_I} {N : am_N} {post : am_I → am_N → Prop} (h : w_X12_flows M N post) : jg (d + 2) mX12_flows dm 0 [(0, .inr (.inr (3, 0, 0)))] [] M N (am_pv post) := by
  refine j_iconst (v := 0) dX12_flows_0 (by decide) ?_
  refine j_istore_n dX12_flows_1 (by decide) rfl ?_
  refine j_sub [1, 0] rfl ?_
  obtain ⟨n, h⟩ := h
  exact k_X12_flows_p2 h3 n _ _ _ h
def w_X12_dries_p2_b (post : am_I → am_N → Prop) (zk2 : Int32 → am_I → am_N → Prop) (l1 : Int32) (M : am_I) (N : am_N) : Prop :=
  ((64 ≤ l1 → post M N) ∧ (¬ 64 ≤ l1 → vp_in (64 + l1) 1635 ∧ ((¬ (M (3, 0, 1) (64 + l1).toNatClampNeg) = 0 → vp_in (64 + l1) 1635 ∧ vp_in (64 + l1) 1635 ∧ zk2 (l1 + 1) (am_u M (3, 0, 1) (64 + l1).toNatClampNeg ((M (3, 0, 1) (64 + l1).toNatClampNeg) - 1)) (am_ul N (3, 0, 0) 3 ((N (3, 0, 0) 3) + 1))) ∧ ((M (3, 0, 1) (64 + l1).toNatClampNeg) = 0 → zk2 (l1 + 1) M N))))
noncomputable def w_X12_dries_p2 (post : am_I → am_N → Prop) (n : Nat) : Int32 → am_I → am_N → Prop :=
  Nat.rec (motive := fun _ => Int32 → am_I → am_N → Prop) (fun _ _ _ => False) (fun _ zk => w_X12_dries_p2_b post zk) n
theorem w_X12_dries_p2_s (post : am_I → am_N → Prop) (n : Nat) (l1 : Int32) (M : am_I) (N : am_N) : w_X12_dries_p2 post (n + 1) l1 M N = w_X12_dries_p2_b post (w_X12_dries_p2 post n) l1 M N := rfl
set_option maxRecDepth 10000 in
theorem k_X12_dries_p2 {d : Nat} {dm : List am_C} (h3 : am_d3 dm) {post : am_I → am_N → Prop} : ∀ (n : Nat) (l1 : Int32) (M : am_I) (N : am_N), w_X12_dries_p2 post n l1 M N → jg (d + 1) mX12_dries dm 2 [(0, .inr (.inr (3, 0, 0))), (1, .inl l1)] [] M N (am_pv post) := by
  intro n
  induction n with
  | zero => intro l1 M N h; exact h.elim
  | succ n zih =>
    intro l1 M N h
    replace h : w_X12_dries_p2_b post (w_X12_dries_p2 post n) l1 M N := h
    refine j_iload_n 1 dX12_dries_2 rfl ?_
    refine j_bipush (v := 64) dX12_dries_3 (by decide) ?_
    refine j_icmp_ge (tgt := 52) dX12_dries_5 (by decide) (fun hc => ?_) (fun hc => ?_)
    · replace h := h.1 hc
      exact j_vret dX12_dries_52 rfl ⟨rfl, h⟩
    · replace h := h.2 hc
      refine j_aload_n 0 dX12_dries_8 rfl ?_
      refine j_getR (b := (3, 0, 1)) dX12_dries_9 fsRX12_7 (h3 0 (by decide)) rfl rfl ?_
      refine j_bipush (v := 64) dX12_dries_12 (by decide) ?_
      refine j_iload_n 1 dX12_dries_14 rfl ?_
      refine j_iadd dX12_dries_15 ?_
      obtain ⟨hq, h⟩ := h
      refine j_iald dX12_dries_16 (h3 1 (by decide)) rfl hq ?_
      refine j_if_ne (tgt := 23) dX12_dries_17 (by decide) (fun hc => ?_) (fun hc => ?_)
      · replace h := h.1 hc
        refine j_aload_n 0 dX12_dries_23 rfl ?_
        refine j_getR (b := (3, 0, 1)) dX12_dries_24 fsRX12_7 (h3 0 (by decide)) rfl rfl ?_
        refine j_bipush (v := 64) dX12_dries_27 (by decide) ?_
        refine j_iload_n 1 dX12_dries_29 rfl ?_
        refine j_iadd dX12_dries_30 ?_
        refine j_dup2 dX12_dries_31 rfl rfl ?_
        obtain ⟨hq, h⟩ := h
        refine j_iald dX12_dries_32 (h3 1 (by decide)) rfl hq ?_
        refine j_iconst (v := 1) dX12_dries_33 (by decide) ?_
        refine j_isub dX12_dries_34 ?_
        obtain ⟨hq, h⟩ := h
        refine j_iast dX12_dries_35 (h3 1 (by decide)) rfl hq ?_
        refine j_aload_n 0 dX12_dries_36 rfl ?_
        refine j_dup dX12_dries_37 rfl ?_
        refine j_getL dX12_dries_38 fsRX12_159 (h3 0 (by decide)) rfl ?_
        refine j_lconst (v := 1) dX12_dries_41 (by decide) ?_
        refine j_ladd dX12_dries_42 ?_
        refine j_putL dX12_dries_43 fwRX12_159 (h3 0 (by decide)) rfl ?_
        refine j_iinc 1 dX12_dries_46 rfl rfl (by decide) rfl ?_
        refine j_goto (tgt := 2) dX12_dries_49 (by decide) ?_
        refine j_sub [1, 0] rfl ?_
        exact zih _ _ _ h
      · replace h := h.2 hc
        refine j_goto (tgt := 46) dX12_dries_20 (by decide) ?_
        refine j_iinc 1 dX12_dries_46 rfl rfl (by decide) rfl ?_
        refine j_goto (tgt := 2) dX12_dries_49 (by decide) ?_
        refine j_sub [1, 0] rfl ?_
        exact zih _ _ _ h
def w_X12_dries (M : am_I) (N : am_N) (post : am_I → am_N → Prop) : Prop :=
  ∃ n, w_X12_dries_p2 post n 0 M N
set_option maxRecDepth 10000 in
theorem k_X12_dries {d : Nat} {dm : List am_C} (h3 : am_d3 dm) {M : am_I} {N : am_N} {post : am_I → am_N → Prop} (h : w_X12_dries M N post) : jg (d + 1) mX12_dries dm 0 [(0, .inr (.inr (3, 0, 0)))] [] M N (am_pv post) := by
  refine j_iconst (v := 0) dX12_dries_0 (by decide) ?_
  refine j_istore_n dX12_dries_1 (by decide) rfl ?_
  refine j_sub [1, 0] rfl ?_
  obtain ⟨n, h⟩ := h
  exact k_X12_dries_p2 h3 n _ _ _ h
def w_X12_mayTake (a1 : Int32) (a2 : Int32) (M : am_I) (N : am_N) (post : Int32 → am_I → am_N → Prop) : Prop :=
  w_X12_isBut 1 a1 M N (fun zr1 zM2 zN3 => ((¬ zr1 = 0 → post 0 zM2 zN3) ∧ (zr1 = 0 → vp_in (976 + a1) 1635 ∧ ((¬ (zM2 (3, 0, 1) (976 + a1).toNatClampNeg) = 0 → post 0 zM2 zN3) ∧ ((zM2 (3, 0, 1) (976 + a1).toNatClampNeg) = 0 → vp_in a1 8 ∧ vp_in a2 60 ∧ ((¬ (zM2 (3, 0, 11) a1.toNatClampNeg) = (zM2 (3, 0, 16) a2.toNatClampNeg) → post 0 zM2 zN3) ∧ ((zM2 (3, 0, 11) a1.toNatClampNeg) = (zM2 (3, 0, 16) a2.toNatClampNeg) → vp_in (968 + a1) 1635 ∧ vp_in a1 8 ∧ (((4 * (zM2 (3, 0, 1) (968 + a1).toNatClampNeg)) < (zM2 (3, 0, 15) a1.toNatClampNeg) → post 0 zM2 zN3) ∧ (¬ (4 * (zM2 (3, 0, 1) (968 + a1).toNatClampNeg)) < (zM2 (3, 0, 15) a1.toNatClampNeg) → post 1 zM2 zN3)))))))))
set_option maxRecDepth 10000 in
theorem k_X12_mayTake {d : Nat} {dm : List am_C} (h3 : am_d3 dm) {a1 : Int32} {a2 : Int32} {M : am_I} {N : am_N} {post : Int32 → am_I → am_N → Prop} (h : w_X12_mayTake a1 a2 M N post) : jg (d + 2) mX12_mayTake dm 0 [(0, .inr (.inr (3, 0, 0))), (1, .inl a1), (2, .inl a2)] [] M N (am_pi post) := by
  refine j_aload_n 0 dX12_mayTake_0 rfl ?_
  refine j_iconst (v := 1) dX12_mayTake_1 (by decide) ?_
  refine j_iload_n 1 dX12_mayTake_2 rfl ?_
  refine j_invV (As := [.inl 1, .inl a1]) dX12_mayTake_3 msRX12_188 mbX12_isBut rfl rfl (Nat.le_of_ble_eq_true rfl) (Nat.le_of_ble_eq_true rfl) (by omega) (h3 0 (by decide)) rfl rfl (k_X12_isBut (d := d + 0) h3 h) ?_
  rintro _ zM2 zN3 ⟨zr1, rfl, h⟩
  refine j_if_ne (tgt := 62) dX12_mayTake_6 (by decide) (fun hc => ?_) (fun hc => ?_)
  · replace h := h.1 hc
    refine j_iconst (v := 0) dX12_mayTake_62 (by decide) ?_
    exact j_zret dX12_mayTake_63 rfl (Or.inl rfl) ⟨_, rfl, h⟩
  · replace h := h.2 hc
    refine j_aload_n 0 dX12_mayTake_9 rfl ?_
    refine j_getR (b := (3, 0, 1)) dX12_mayTake_10 fsRX12_7 (h3 0 (by decide)) rfl rfl ?_
    refine j_sipush (v := 976) dX12_mayTake_13 (by decide) ?_
    refine j_iload_n 1 dX12_mayTake_16 rfl ?_
    refine j_iadd dX12_mayTake_17 ?_
    obtain ⟨hq, h⟩ := h
    refine j_iald dX12_mayTake_18 (h3 1 (by decide)) rfl hq ?_
    refine j_if_ne (tgt := 62) dX12_mayTake_19 (by decide) (fun hc => ?_) (fun hc => ?_)
    · replace h := h.1 hc
      refine j_iconst (v := 0) dX12_mayTake_62 (by decide) ?_
      exact j_zret dX12_mayTake_63 rfl (Or.inl rfl) ⟨_, rfl, h⟩
    · replace h := h.2 hc
      refine j_aload_n 0 dX12_mayTake_22 rfl ?_
      refine j_getR (b := (3, 0, 11)) dX12_mayTake_23 fsRX12_40 (h3 0 (by decide)) rfl rfl ?_
      refine j_iload_n 1 dX12_mayTake_26 rfl ?_
      obtain ⟨hq, h⟩ := h
      refine j_iald dX12_mayTake_27 (h3 11 (by decide)) rfl hq ?_
      refine j_aload_n 0 dX12_mayTake_28 rfl ?_
      refine j_getR (b := (3, 0, 16)) dX12_mayTake_29 fsRX12_55 (h3 0 (by decide)) rfl rfl ?_
      refine j_iload_n 2 dX12_mayTake_32 rfl ?_
      obtain ⟨hq, h⟩ := h
      refine j_iald dX12_mayTake_33 (h3 16 (by decide)) rfl hq ?_
      refine j_icmp_ne (tgt := 62) dX12_mayTake_34 (by decide) (fun hc => ?_) (fun hc => ?_)
      · replace h := h.1 hc
        refine j_iconst (v := 0) dX12_mayTake_62 (by decide) ?_
        exact j_zret dX12_mayTake_63 rfl (Or.inl rfl) ⟨_, rfl, h⟩
      · replace h := h.2 hc
        refine j_iconst (v := 4) dX12_mayTake_37 (by decide) ?_
        refine j_aload_n 0 dX12_mayTake_38 rfl ?_
        refine j_getR (b := (3, 0, 1)) dX12_mayTake_39 fsRX12_7 (h3 0 (by decide)) rfl rfl ?_
        refine j_sipush (v := 968) dX12_mayTake_42 (by decide) ?_
        refine j_iload_n 1 dX12_mayTake_45 rfl ?_
        refine j_iadd dX12_mayTake_46 ?_
        obtain ⟨hq, h⟩ := h
        refine j_iald dX12_mayTake_47 (h3 1 (by decide)) rfl hq ?_
        refine j_imul dX12_mayTake_48 ?_
        refine j_aload_n 0 dX12_mayTake_49 rfl ?_
        refine j_getR (b := (3, 0, 15)) dX12_mayTake_50 fsRX12_52 (h3 0 (by decide)) rfl rfl ?_
        refine j_iload_n 1 dX12_mayTake_53 rfl ?_
        obtain ⟨hq, h⟩ := h
        refine j_iald dX12_mayTake_54 (h3 15 (by decide)) rfl hq ?_
        refine j_icmp_lt (tgt := 62) dX12_mayTake_55 (by decide) (fun hc => ?_) (fun hc => ?_)
        · replace h := h.1 hc
          refine j_iconst (v := 0) dX12_mayTake_62 (by decide) ?_
          exact j_zret dX12_mayTake_63 rfl (Or.inl rfl) ⟨_, rfl, h⟩
        · replace h := h.2 hc
          refine j_iconst (v := 1) dX12_mayTake_58 (by decide) ?_
          refine j_goto (tgt := 63) dX12_mayTake_59 (by decide) ?_
          exact j_zret dX12_mayTake_63 rfl (Or.inr rfl) ⟨_, rfl, h⟩
def w_X12_drops (a1 : Int32) (M : am_I) (N : am_N) (post : am_I → am_N → Prop) : Prop :=
  vp_in (984 + a1) 1635 ∧ ∀ zv1 : Int32, zv1 = M (3, 0, 1) (984 + a1).toNatClampNeg → ((¬ zv1 = (-1) → vp_in (1504 + zv1) 1635 ∧ vp_in (1564 + zv1) 1635 ∧ vp_in (984 + a1) 1635 ∧ post (am_u (am_u (am_u M (3, 0, 1) (1504 + zv1).toNatClampNeg 0) (3, 0, 1) (1564 + zv1).toNatClampNeg (-1)) (3, 0, 1) (984 + a1).toNatClampNeg (-1)) N) ∧ (zv1 = (-1) → post M N))
set_option maxRecDepth 10000 in
theorem k_X12_drops {d : Nat} {dm : List am_C} (h3 : am_d3 dm) {a1 : Int32} {M : am_I} {N : am_N} {post : am_I → am_N → Prop} (h : w_X12_drops a1 M N post) : jg (d + 1) mX12_drops dm 0 [(0, .inr (.inr (3, 0, 0))), (1, .inl a1)] [] M N (am_pv post) := by
  refine j_aload_n 0 dX12_drops_0 rfl ?_
  refine j_getR (b := (3, 0, 1)) dX12_drops_1 fsRX12_7 (h3 0 (by decide)) rfl rfl ?_
  refine j_sipush (v := 984) dX12_drops_4 (by decide) ?_
  refine j_iload_n 1 dX12_drops_7 rfl ?_
  refine j_iadd dX12_drops_8 ?_
  obtain ⟨hq, h⟩ := h
  refine j_iald dX12_drops_9 (h3 1 (by decide)) rfl hq ?_
  refine j_topi (fun zv1 hzv1 => ?_)
  replace h := h zv1 hzv1
  refine j_istore_n dX12_drops_10 (by decide) rfl ?_
  refine j_iload_n 0 dX12_drops_11 rfl ?_
  refine j_iconst (v := (-1)) dX12_drops_12 (by decide) ?_
  refine j_icmp_ne (tgt := 17) dX12_drops_13 (by decide) (fun hc => ?_) (fun hc => ?_)
  · replace h := h.1 hc
    refine j_aload_n 1 dX12_drops_17 rfl ?_
    refine j_getR (b := (3, 0, 1)) dX12_drops_18 fsRX12_7 (h3 0 (by decide)) rfl rfl ?_
    refine j_sipush (v := 1504) dX12_drops_21 (by decide) ?_
    refine j_iload_n 0 dX12_drops_24 rfl ?_
    refine j_iadd dX12_drops_25 ?_
    refine j_iconst (v := 0) dX12_drops_26 (by decide) ?_
    obtain ⟨hq, h⟩ := h
    refine j_iast dX12_drops_27 (h3 1 (by decide)) rfl hq ?_
    refine j_aload_n 1 dX12_drops_28 rfl ?_
    refine j_getR (b := (3, 0, 1)) dX12_drops_29 fsRX12_7 (h3 0 (by decide)) rfl rfl ?_
    refine j_sipush (v := 1564) dX12_drops_32 (by decide) ?_
    refine j_iload_n 0 dX12_drops_35 rfl ?_
    refine j_iadd dX12_drops_36 ?_
    refine j_iconst (v := (-1)) dX12_drops_37 (by decide) ?_
    obtain ⟨hq, h⟩ := h
    refine j_iast dX12_drops_38 (h3 1 (by decide)) rfl hq ?_
    refine j_aload_n 1 dX12_drops_39 rfl ?_
    refine j_getR (b := (3, 0, 1)) dX12_drops_40 fsRX12_7 (h3 0 (by decide)) rfl rfl ?_
    refine j_sipush (v := 984) dX12_drops_43 (by decide) ?_
    refine j_iload_n 2 dX12_drops_46 rfl ?_
    refine j_iadd dX12_drops_47 ?_
    refine j_iconst (v := (-1)) dX12_drops_48 (by decide) ?_
    obtain ⟨hq, h⟩ := h
    refine j_iast dX12_drops_49 (h3 1 (by decide)) rfl hq ?_
    exact j_vret dX12_drops_50 rfl ⟨rfl, h⟩
  · replace h := h.2 hc
    exact j_vret dX12_drops_16 rfl ⟨rfl, h⟩
def w_X12_pulls_p2_b (post : am_I → am_N → Prop) (zk2 : Int32 → Int32 → Int32 → am_I → am_N → Prop) (l1 : Int32) (l2 : Int32) (l3 : Int32) (M : am_I) (N : am_N) : Prop :=
  (((M (3, 0, 1) 1631) ≤ l3 → post M N) ∧ (¬ (M (3, 0, 1) 1631) ≤ l3 → vp_in (976 + l3) 1635 ∧ ((¬ (M (3, 0, 1) (976 + l3).toNatClampNeg) = 4 → zk2 l1 l2 (l3 + 1) M N) ∧ ((M (3, 0, 1) (976 + l3).toNatClampNeg) = 4 → vp_in (960 + l3) 1635 ∧ (((M (3, 0, 1) (960 + l3).toNatClampNeg) = l2 → vp_in (960 + l1) 1635 ∧ vp_in (960 + l3) 1635 ∧ vp_in (976 + l3) 1635 ∧ post (am_u (am_u M (3, 0, 1) (960 + l3).toNatClampNeg (M (3, 0, 1) (960 + l1).toNatClampNeg)) (3, 0, 1) (976 + l3).toNatClampNeg 0) N) ∧ (¬ (M (3, 0, 1) (960 + l3).toNatClampNeg) = l2 → zk2 l1 l2 (l3 + 1) M N))))))
noncomputable def w_X12_pulls_p2 (post : am_I → am_N → Prop) (n : Nat) : Int32 → Int32 → Int32 → am_I → am_N → Prop :=
  Nat.rec (motive := fun _ => Int32 → Int32 → Int32 → am_I → am_N → Prop) (fun _ _ _ _ _ => False) (fun _ zk => w_X12_pulls_p2_b post zk) n
theorem w_X12_pulls_p2_s (post : am_I → am_N → Prop) (n : Nat) (l1 : Int32) (l2 : Int32) (l3 : Int32) (M : am_I) (N : am_N) : w_X12_pulls_p2 post (n + 1) l1 l2 l3 M N = w_X12_pulls_p2_b post (w_X12_pulls_p2 post n) l1 l2 l3 M N := rfl
set_option maxRecDepth 10000 in
theorem k_X12_pulls_p2 {d : Nat} {dm : List am_C} (h3 : am_d3 dm) {post : am_I → am_N → Prop} : ∀ (n : Nat) (l1 : Int32) (l2 : Int32) (l3 : Int32) (M : am_I) (N : am_N), w_X12_pulls_p2 post n l1 l2 l3 M N → jg (d + 1) mX12_pulls dm 2 [(0, .inr (.inr (3, 0, 0))), (1, .inl l1), (2, .inl l2), (3, .inl l3)] [] M N (am_pv post) := by
  intro n
  induction n with
  | zero => intro l1 l2 l3 M N h; exact h.elim
  | succ n zih =>
    intro l1 l2 l3 M N h
    replace h : w_X12_pulls_p2_b post (w_X12_pulls_p2 post n) l1 l2 l3 M N := h
    refine j_iload_n 3 dX12_pulls_2 rfl ?_
    refine j_aload_n 0 dX12_pulls_3 rfl ?_
    refine j_getR (b := (3, 0, 1)) dX12_pulls_4 fsRX12_7 (h3 0 (by decide)) rfl rfl ?_
    refine j_sipush (v := 1631) dX12_pulls_7 (by decide) ?_
    refine j_iald dX12_pulls_10 (h3 1 (by decide)) rfl (by unfold vp_in; decide) ?_
    refine j_icmp_ge (tgt := 83) dX12_pulls_11 (by decide) (fun hc => ?_) (fun hc => ?_)
    · replace h := h.1 hc
      exact j_vret dX12_pulls_83 rfl ⟨rfl, h⟩
    · replace h := h.2 hc
      refine j_aload_n 0 dX12_pulls_14 rfl ?_
      refine j_getR (b := (3, 0, 1)) dX12_pulls_15 fsRX12_7 (h3 0 (by decide)) rfl rfl ?_
      refine j_sipush (v := 976) dX12_pulls_18 (by decide) ?_
      refine j_iload_n 3 dX12_pulls_21 rfl ?_
      refine j_iadd dX12_pulls_22 ?_
      obtain ⟨hq, h⟩ := h
      refine j_iald dX12_pulls_23 (h3 1 (by decide)) rfl hq ?_
      refine j_iconst (v := 4) dX12_pulls_24 (by decide) ?_
      refine j_icmp_ne (tgt := 77) dX12_pulls_25 (by decide) (fun hc => ?_) (fun hc => ?_)
      · replace h := h.1 hc
        refine j_iinc 3 dX12_pulls_77 rfl rfl (by decide) rfl ?_
        refine j_goto (tgt := 2) dX12_pulls_80 (by decide) ?_
        refine j_sub [1, 2, 3, 0] rfl ?_
        exact zih _ _ _ _ _ h
      · replace h := h.2 hc
        refine j_aload_n 0 dX12_pulls_28 rfl ?_
        refine j_getR (b := (3, 0, 1)) dX12_pulls_29 fsRX12_7 (h3 0 (by decide)) rfl rfl ?_
        refine j_sipush (v := 960) dX12_pulls_32 (by decide) ?_
        refine j_iload_n 3 dX12_pulls_35 rfl ?_
        refine j_iadd dX12_pulls_36 ?_
        obtain ⟨hq, h⟩ := h
        refine j_iald dX12_pulls_37 (h3 1 (by decide)) rfl hq ?_
        refine j_iload_n 2 dX12_pulls_38 rfl ?_
        refine j_icmp_eq (tgt := 45) dX12_pulls_39 (by decide) (fun hc => ?_) (fun hc => ?_)
        · replace h := h.1 hc
          refine j_aload_n 0 dX12_pulls_45 rfl ?_
          refine j_getR (b := (3, 0, 1)) dX12_pulls_46 fsRX12_7 (h3 0 (by decide)) rfl rfl ?_
          refine j_sipush (v := 960) dX12_pulls_49 (by decide) ?_
          refine j_iload_n 3 dX12_pulls_52 rfl ?_
          refine j_iadd dX12_pulls_53 ?_
          refine j_aload_n 0 dX12_pulls_54 rfl ?_
          refine j_getR (b := (3, 0, 1)) dX12_pulls_55 fsRX12_7 (h3 0 (by decide)) rfl rfl ?_
          refine j_sipush (v := 960) dX12_pulls_58 (by decide) ?_
          refine j_iload_n 1 dX12_pulls_61 rfl ?_
          refine j_iadd dX12_pulls_62 ?_
          obtain ⟨hq, h⟩ := h
          refine j_iald dX12_pulls_63 (h3 1 (by decide)) rfl hq ?_
          obtain ⟨hq, h⟩ := h
          refine j_iast dX12_pulls_64 (h3 1 (by decide)) rfl hq ?_
          refine j_aload_n 0 dX12_pulls_65 rfl ?_
          refine j_getR (b := (3, 0, 1)) dX12_pulls_66 fsRX12_7 (h3 0 (by decide)) rfl rfl ?_
          refine j_sipush (v := 976) dX12_pulls_69 (by decide) ?_
          refine j_iload_n 3 dX12_pulls_72 rfl ?_
          refine j_iadd dX12_pulls_73 ?_
          refine j_iconst (v := 0) dX12_pulls_74 (by decide) ?_
          obtain ⟨hq, h⟩ := h
          refine j_iast dX12_pulls_75 (h3 1 (by decide)) rfl hq ?_
          exact j_vret dX12_pulls_76 rfl ⟨rfl, h⟩
        · replace h := h.2 hc
          refine j_goto (tgt := 77) dX12_pulls_42 (by decide) ?_
          refine j_iinc 3 dX12_pulls_77 rfl rfl (by decide) rfl ?_
          refine j_goto (tgt := 2) dX12_pulls_80 (by decide) ?_
          refine j_sub [1, 2, 3, 0] rfl ?_
          exact zih _ _ _ _ _ h
def w_X12_pulls (a1 : Int32) (a2 : Int32) (M : am_I) (N : am_N) (post : am_I → am_N → Prop) : Prop :=
  ∃ n, w_X12_pulls_p2 post n a1 a2 0 M N
set_option maxRecDepth 10000 in
theorem k_X12_pulls {d : Nat} {dm : List am_C} (h3 : am_d3 dm) {a1 : Int32} {a2 : Int32} {M : am_I} {N : am_N} {post : am_I → am_N → Prop} (h : w_X12_pulls a1 a2 M N post) : jg (d + 1) mX12_pulls dm 0 [(0, .inr (.inr (3, 0, 0))), (1, .inl a1), (2, .inl a2)] [] M N (am_pv post) := by
  refine j_iconst (v := 0) dX12_pulls_0 (by decide) ?_
  refine j_istore_n dX12_pulls_1 (by decide) rfl ?_
  refine j_sub [1, 2, 3, 0] rfl ?_
  obtain ⟨n, h⟩ := h
  exact k_X12_pulls_p2 h3 n _ _ _ _ _ h
def w_X12_lotIsLow_p54 (post : Int32 → am_I → am_N → Prop) (l1 : Int32) (M : am_I) (N : am_N) : Prop :=
  (((M (3, 0, 1) 1628) ≤ l1 → post 0 M N) ∧ (¬ (M (3, 0, 1) 1628) ≤ l1 → post 1 M N))
set_option maxRecDepth 10000 in
theorem k_X12_lotIsLow_p54 {d : Nat} {dm : List am_C} (h3 : am_d3 dm) {post : Int32 → am_I → am_N → Prop} (l1 : Int32) (M : am_I) (N : am_N) (h : w_X12_lotIsLow_p54 post l1 M N) : jg (d + 1) mX12_lotIsLow dm 54 [(0, .inr (.inr (3, 0, 0))), (1, .inl l1)] [] M N (am_pi post) := by
  refine j_iload_n 1 dX12_lotIsLow_54 rfl ?_
  refine j_aload_n 0 dX12_lotIsLow_55 rfl ?_
  refine j_getR (b := (3, 0, 1)) dX12_lotIsLow_56 fsRX12_7 (h3 0 (by decide)) rfl rfl ?_
  refine j_sipush (v := 1628) dX12_lotIsLow_59 (by decide) ?_
  refine j_iald dX12_lotIsLow_62 (h3 1 (by decide)) rfl (by unfold vp_in; decide) ?_
  refine j_icmp_ge (tgt := 70) dX12_lotIsLow_63 (by decide) (fun hc => ?_) (fun hc => ?_)
  · replace h := h.1 hc
    refine j_iconst (v := 0) dX12_lotIsLow_70 (by decide) ?_
    exact j_zret dX12_lotIsLow_71 rfl (Or.inl rfl) ⟨_, rfl, h⟩
  · replace h := h.2 hc
    refine j_iconst (v := 1) dX12_lotIsLow_66 (by decide) ?_
    refine j_goto (tgt := 71) dX12_lotIsLow_67 (by decide) ?_
    exact j_zret dX12_lotIsLow_71 rfl (Or.inr rfl) ⟨_, rfl, h⟩
def w_X12_lotIsLow (M : am_I) (N : am_N) (post : Int32 → am_I → am_N → Prop) : Prop :=
  vp_in (M (3, 0, 1) 1625) 40 ∧ ∀ zv1 : Int32, zv1 = M (3, 0, 19) (M (3, 0, 1) 1625).toNatClampNeg → ((((am_u M (3, 0, 1) 1625 ((M (3, 0, 1) 1625) + 1)) (3, 0, 1) 1625) < ((am_u M (3, 0, 1) 1625 ((M (3, 0, 1) 1625) + 1)) (3, 0, 1) 1633) → w_X12_lotIsLow_p54 post zv1 (am_u M (3, 0, 1) 1625 ((M (3, 0, 1) 1625) + 1)) N) ∧ (¬ ((am_u M (3, 0, 1) 1625 ((M (3, 0, 1) 1625) + 1)) (3, 0, 1) 1625) < ((am_u M (3, 0, 1) 1625 ((M (3, 0, 1) 1625) + 1)) (3, 0, 1) 1633) → w_X12_lotIsLow_p54 post zv1 (am_u (am_u M (3, 0, 1) 1625 ((M (3, 0, 1) 1625) + 1)) (3, 0, 1) 1625 0) N))
set_option maxRecDepth 10000 in
theorem k_X12_lotIsLow {d : Nat} {dm : List am_C} (h3 : am_d3 dm) {M : am_I} {N : am_N} {post : Int32 → am_I → am_N → Prop} (h : w_X12_lotIsLow M N post) : jg (d + 1) mX12_lotIsLow dm 0 [(0, .inr (.inr (3, 0, 0)))] [] M N (am_pi post) := by
  refine j_aload_n 0 dX12_lotIsLow_0 rfl ?_
  refine j_getR (b := (3, 0, 19)) dX12_lotIsLow_1 fsRX12_64 (h3 0 (by decide)) rfl rfl ?_
  refine j_aload_n 0 dX12_lotIsLow_4 rfl ?_
  refine j_getR (b := (3, 0, 1)) dX12_lotIsLow_5 fsRX12_7 (h3 0 (by decide)) rfl rfl ?_
  refine j_sipush (v := 1625) dX12_lotIsLow_8 (by decide) ?_
  refine j_iald dX12_lotIsLow_11 (h3 1 (by decide)) rfl (by unfold vp_in; decide) ?_
  obtain ⟨hq, h⟩ := h
  refine j_iald dX12_lotIsLow_12 (h3 19 (by decide)) rfl hq ?_
  refine j_topi (fun zv1 hzv1 => ?_)
  replace h := h zv1 hzv1
  refine j_istore_n dX12_lotIsLow_13 (by decide) rfl ?_
  refine j_aload_n 1 dX12_lotIsLow_14 rfl ?_
  refine j_getR (b := (3, 0, 1)) dX12_lotIsLow_15 fsRX12_7 (h3 0 (by decide)) rfl rfl ?_
  refine j_sipush (v := 1625) dX12_lotIsLow_18 (by decide) ?_
  refine j_dup2 dX12_lotIsLow_21 rfl rfl ?_
  refine j_iald dX12_lotIsLow_22 (h3 1 (by decide)) rfl (by unfold vp_in; decide) ?_
  refine j_iconst (v := 1) dX12_lotIsLow_23 (by decide) ?_
  refine j_iadd dX12_lotIsLow_24 ?_
  refine j_iast dX12_lotIsLow_25 (h3 1 (by decide)) rfl (by unfold vp_in; decide) ?_
  refine j_aload_n 1 dX12_lotIsLow_26 rfl ?_
  refine j_getR (b := (3, 0, 1)) dX12_lotIsLow_27 fsRX12_7 (h3 0 (by decide)) rfl rfl ?_
  refine j_sipush (v := 1625) dX12_lotIsLow_30 (by decide) ?_
  refine j_iald dX12_lotIsLow_33 (h3 1 (by decide)) rfl (by unfold vp_in; decide) ?_
  refine j_aload_n 1 dX12_lotIsLow_34 rfl ?_
  refine j_getR (b := (3, 0, 1)) dX12_lotIsLow_35 fsRX12_7 (h3 0 (by decide)) rfl rfl ?_
  refine j_sipush (v := 1633) dX12_lotIsLow_38 (by decide) ?_
  refine j_iald dX12_lotIsLow_41 (h3 1 (by decide)) rfl (by unfold vp_in; decide) ?_
  refine j_icmp_lt (tgt := 54) dX12_lotIsLow_42 (by decide) (fun hc => ?_) (fun hc => ?_)
  · replace h := h.1 hc
    refine j_sub [1, 0] rfl ?_
    exact k_X12_lotIsLow_p54 h3 _ _ _ h
  · replace h := h.2 hc
    refine j_aload_n 1 dX12_lotIsLow_45 rfl ?_
    refine j_getR (b := (3, 0, 1)) dX12_lotIsLow_46 fsRX12_7 (h3 0 (by decide)) rfl rfl ?_
    refine j_sipush (v := 1625) dX12_lotIsLow_49 (by decide) ?_
    refine j_iconst (v := 0) dX12_lotIsLow_52 (by decide) ?_
    refine j_iast dX12_lotIsLow_53 (h3 1 (by decide)) rfl (by unfold vp_in; decide) ?_
    refine j_sub [1, 0] rfl ?_
    exact k_X12_lotIsLow_p54 h3 _ _ _ h
def w_X12_cellOf_p19 (post : Int32 → am_I → am_N → Prop) (l1 : Int32) (l2 : Int32) (s0 : Int32) (M : am_I) (N : am_N) : Prop :=
  ((l2 = 0 → vp_in (0 + l1) 1635 ∧ post (M (3, 0, 1) (0 + l1).toNatClampNeg) M N) ∧ (l2 = 1 → vp_in (64 + l1) 1635 ∧ post (M (3, 0, 1) (64 + l1).toNatClampNeg) M N) ∧ (l2 = 2 → vp_in (128 + l1) 1635 ∧ post (M (3, 0, 1) (128 + l1).toNatClampNeg) M N) ∧ (l2 = 3 → vp_in (192 + l1) 1635 ∧ post (M (3, 0, 1) (192 + l1).toNatClampNeg) M N) ∧ (l2 = 4 → ((s0 = 0 → post 0 M N) ∧ (¬ s0 = 0 → vp_in (256 + l1) 1635 ∧ post (M (3, 0, 1) (256 + l1).toNatClampNeg) M N))) ∧ (l2 = 5 → ((s0 = 0 → post 0 M N) ∧ (¬ s0 = 0 → vp_in (320 + l1) 1635 ∧ post (M (3, 0, 1) (320 + l1).toNatClampNeg) M N))) ∧ (l2 = 6 → ((s0 = 0 → post 0 M N) ∧ (¬ s0 = 0 → vp_in (384 + l1) 1635 ∧ post (M (3, 0, 1) (384 + l1).toNatClampNeg) M N))) ∧ (l2 = 7 → ((s0 = 0 → post 0 M N) ∧ (¬ s0 = 0 → vp_in (448 + l1) 1635 ∧ post (M (3, 0, 1) (448 + l1).toNatClampNeg) M N))) ∧ (l2 = 8 → vp_in (512 + l1) 1635 ∧ post (M (3, 0, 1) (512 + l1).toNatClampNeg) M N) ∧ (l2 = 9 → ((s0 = 0 → post 0 M N) ∧ (¬ s0 = 0 → w_X12_weeds l1 M N (fun zr1 zM2 zN3 => post zr1 zM2 zN3)))) ∧ (l2 = 10 → ((s0 = 0 → vp_in (576 + l1) 1635 ∧ post (M (3, 0, 1) (576 + l1).toNatClampNeg) M N) ∧ (¬ s0 = 0 → post 0 M N))) ∧ (¬ l2 = 0 → ¬ l2 = 1 → ¬ l2 = 2 → ¬ l2 = 3 → ¬ l2 = 4 → ¬ l2 = 5 → ¬ l2 = 6 → ¬ l2 = 7 → ¬ l2 = 8 → ¬ l2 = 9 → ¬ l2 = 10 → post (-1) M N))
set_option maxRecDepth 10000 in
theorem k_X12_cellOf_p19 {d : Nat} {dm : List am_C} (h3 : am_d3 dm) {post : Int32 → am_I → am_N → Prop} (l1 : Int32) (l2 : Int32) (s0 : Int32) (M : am_I) (N : am_N) (h : w_X12_cellOf_p19 post l1 l2 s0 M N) : jg (d + 2) mX12_cellOf dm 19 [(0, .inr (.inr (3, 0, 0))), (1, .inl l1), (2, .inl l2)] [.inl s0] M N (am_pi post) := by
  refine j_istore_n dX12_cellOf_19 (by decide) rfl ?_
  refine j_iload_n 3 dX12_cellOf_20 rfl ?_
  by_cases hs0 : l2 = 0
  · replace h := h.1 hs0
    refine j_tabK (k := 0) (tgt := 80) (off := 59) dX12_cellOf_21 hs0 (by decide) (by decide) (by decide) (by decide) ?_
    refine j_aload_n 1 dX12_cellOf_80 rfl ?_
    refine j_getR (b := (3, 0, 1)) dX12_cellOf_81 fsRX12_7 (h3 0 (by decide)) rfl rfl ?_
    refine j_iconst (v := 0) dX12_cellOf_84 (by decide) ?_
    refine j_iload_n 2 dX12_cellOf_85 rfl ?_
    refine j_iadd dX12_cellOf_86 ?_
    obtain ⟨hq, h⟩ := h
    refine j_iald dX12_cellOf_87 (h3 1 (by decide)) rfl hq ?_
    exact j_iret dX12_cellOf_88 rfl ⟨_, rfl, h⟩
  by_cases hs1 : l2 = 1
  · replace h := h.2.1 hs1
    refine j_tabK (k := 1) (tgt := 89) (off := 68) dX12_cellOf_21 hs1 (by decide) (by decide) (by decide) (by decide) ?_
    refine j_aload_n 1 dX12_cellOf_89 rfl ?_
    refine j_getR (b := (3, 0, 1)) dX12_cellOf_90 fsRX12_7 (h3 0 (by decide)) rfl rfl ?_
    refine j_bipush (v := 64) dX12_cellOf_93 (by decide) ?_
    refine j_iload_n 2 dX12_cellOf_95 rfl ?_
    refine j_iadd dX12_cellOf_96 ?_
    obtain ⟨hq, h⟩ := h
    refine j_iald dX12_cellOf_97 (h3 1 (by decide)) rfl hq ?_
    exact j_iret dX12_cellOf_98 rfl ⟨_, rfl, h⟩
  by_cases hs2 : l2 = 2
  · replace h := h.2.2.1 hs2
    refine j_tabK (k := 2) (tgt := 99) (off := 78) dX12_cellOf_21 hs2 (by decide) (by decide) (by decide) (by decide) ?_
    refine j_aload_n 1 dX12_cellOf_99 rfl ?_
    refine j_getR (b := (3, 0, 1)) dX12_cellOf_100 fsRX12_7 (h3 0 (by decide)) rfl rfl ?_
    refine j_sipush (v := 128) dX12_cellOf_103 (by decide) ?_
    refine j_iload_n 2 dX12_cellOf_106 rfl ?_
    refine j_iadd dX12_cellOf_107 ?_
    obtain ⟨hq, h⟩ := h
    refine j_iald dX12_cellOf_108 (h3 1 (by decide)) rfl hq ?_
    exact j_iret dX12_cellOf_109 rfl ⟨_, rfl, h⟩
  by_cases hs3 : l2 = 3
  · replace h := h.2.2.2.1 hs3
    refine j_tabK (k := 3) (tgt := 110) (off := 89) dX12_cellOf_21 hs3 (by decide) (by decide) (by decide) (by decide) ?_
    refine j_aload_n 1 dX12_cellOf_110 rfl ?_
    refine j_getR (b := (3, 0, 1)) dX12_cellOf_111 fsRX12_7 (h3 0 (by decide)) rfl rfl ?_
    refine j_sipush (v := 192) dX12_cellOf_114 (by decide) ?_
    refine j_iload_n 2 dX12_cellOf_117 rfl ?_
    refine j_iadd dX12_cellOf_118 ?_
    obtain ⟨hq, h⟩ := h
    refine j_iald dX12_cellOf_119 (h3 1 (by decide)) rfl hq ?_
    exact j_iret dX12_cellOf_120 rfl ⟨_, rfl, h⟩
  by_cases hs4 : l2 = 4
  · replace h := h.2.2.2.2.1 hs4
    refine j_tabK (k := 4) (tgt := 121) (off := 100) dX12_cellOf_21 hs4 (by decide) (by decide) (by decide) (by decide) ?_
    refine j_iload_n 0 dX12_cellOf_121 rfl ?_
    refine j_if_eq (tgt := 138) dX12_cellOf_122 (by decide) (fun hc => ?_) (fun hc => ?_)
    · replace h := h.1 hc
      refine j_iconst (v := 0) dX12_cellOf_138 (by decide) ?_
      exact j_iret dX12_cellOf_139 rfl ⟨_, rfl, h⟩
    · replace h := h.2 hc
      refine j_aload_n 1 dX12_cellOf_125 rfl ?_
      refine j_getR (b := (3, 0, 1)) dX12_cellOf_126 fsRX12_7 (h3 0 (by decide)) rfl rfl ?_
      refine j_sipush (v := 256) dX12_cellOf_129 (by decide) ?_
      refine j_iload_n 2 dX12_cellOf_132 rfl ?_
      refine j_iadd dX12_cellOf_133 ?_
      obtain ⟨hq, h⟩ := h
      refine j_iald dX12_cellOf_134 (h3 1 (by decide)) rfl hq ?_
      refine j_goto (tgt := 139) dX12_cellOf_135 (by decide) ?_
      exact j_iret dX12_cellOf_139 rfl ⟨_, rfl, h⟩
  by_cases hs5 : l2 = 5
  · replace h := h.2.2.2.2.2.1 hs5
    refine j_tabK (k := 5) (tgt := 140) (off := 119) dX12_cellOf_21 hs5 (by decide) (by decide) (by decide) (by decide) ?_
    refine j_iload_n 0 dX12_cellOf_140 rfl ?_
    refine j_if_eq (tgt := 157) dX12_cellOf_141 (by decide) (fun hc => ?_) (fun hc => ?_)
    · replace h := h.1 hc
      refine j_iconst (v := 0) dX12_cellOf_157 (by decide) ?_
      exact j_iret dX12_cellOf_158 rfl ⟨_, rfl, h⟩
    · replace h := h.2 hc
      refine j_aload_n 1 dX12_cellOf_144 rfl ?_
      refine j_getR (b := (3, 0, 1)) dX12_cellOf_145 fsRX12_7 (h3 0 (by decide)) rfl rfl ?_
      refine j_sipush (v := 320) dX12_cellOf_148 (by decide) ?_
      refine j_iload_n 2 dX12_cellOf_151 rfl ?_
      refine j_iadd dX12_cellOf_152 ?_
      obtain ⟨hq, h⟩ := h
      refine j_iald dX12_cellOf_153 (h3 1 (by decide)) rfl hq ?_
      refine j_goto (tgt := 158) dX12_cellOf_154 (by decide) ?_
      exact j_iret dX12_cellOf_158 rfl ⟨_, rfl, h⟩
  by_cases hs6 : l2 = 6
  · replace h := h.2.2.2.2.2.2.1 hs6
    refine j_tabK (k := 6) (tgt := 159) (off := 138) dX12_cellOf_21 hs6 (by decide) (by decide) (by decide) (by decide) ?_
    refine j_iload_n 0 dX12_cellOf_159 rfl ?_
    refine j_if_eq (tgt := 176) dX12_cellOf_160 (by decide) (fun hc => ?_) (fun hc => ?_)
    · replace h := h.1 hc
      refine j_iconst (v := 0) dX12_cellOf_176 (by decide) ?_
      exact j_iret dX12_cellOf_177 rfl ⟨_, rfl, h⟩
    · replace h := h.2 hc
      refine j_aload_n 1 dX12_cellOf_163 rfl ?_
      refine j_getR (b := (3, 0, 1)) dX12_cellOf_164 fsRX12_7 (h3 0 (by decide)) rfl rfl ?_
      refine j_sipush (v := 384) dX12_cellOf_167 (by decide) ?_
      refine j_iload_n 2 dX12_cellOf_170 rfl ?_
      refine j_iadd dX12_cellOf_171 ?_
      obtain ⟨hq, h⟩ := h
      refine j_iald dX12_cellOf_172 (h3 1 (by decide)) rfl hq ?_
      refine j_goto (tgt := 177) dX12_cellOf_173 (by decide) ?_
      exact j_iret dX12_cellOf_177 rfl ⟨_, rfl, h⟩
  by_cases hs7 : l2 = 7
  · replace h := h.2.2.2.2.2.2.2.1 hs7
    refine j_tabK (k := 7) (tgt := 178) (off := 157) dX12_cellOf_21 hs7 (by decide) (by decide) (by decide) (by decide) ?_
    refine j_iload_n 0 dX12_cellOf_178 rfl ?_
    refine j_if_eq (tgt := 195) dX12_cellOf_179 (by decide) (fun hc => ?_) (fun hc => ?_)
    · replace h := h.1 hc
      refine j_iconst (v := 0) dX12_cellOf_195 (by decide) ?_
      exact j_iret dX12_cellOf_196 rfl ⟨_, rfl, h⟩
    · replace h := h.2 hc
      refine j_aload_n 1 dX12_cellOf_182 rfl ?_
      refine j_getR (b := (3, 0, 1)) dX12_cellOf_183 fsRX12_7 (h3 0 (by decide)) rfl rfl ?_
      refine j_sipush (v := 448) dX12_cellOf_186 (by decide) ?_
      refine j_iload_n 2 dX12_cellOf_189 rfl ?_
      refine j_iadd dX12_cellOf_190 ?_
      obtain ⟨hq, h⟩ := h
      refine j_iald dX12_cellOf_191 (h3 1 (by decide)) rfl hq ?_
      refine j_goto (tgt := 196) dX12_cellOf_192 (by decide) ?_
      exact j_iret dX12_cellOf_196 rfl ⟨_, rfl, h⟩
  by_cases hs8 : l2 = 8
  · replace h := h.2.2.2.2.2.2.2.2.1 hs8
    refine j_tabK (k := 8) (tgt := 197) (off := 176) dX12_cellOf_21 hs8 (by decide) (by decide) (by decide) (by decide) ?_
    refine j_aload_n 1 dX12_cellOf_197 rfl ?_
    refine j_getR (b := (3, 0, 1)) dX12_cellOf_198 fsRX12_7 (h3 0 (by decide)) rfl rfl ?_
    refine j_sipush (v := 512) dX12_cellOf_201 (by decide) ?_
    refine j_iload_n 2 dX12_cellOf_204 rfl ?_
    refine j_iadd dX12_cellOf_205 ?_
    obtain ⟨hq, h⟩ := h
    refine j_iald dX12_cellOf_206 (h3 1 (by decide)) rfl hq ?_
    exact j_iret dX12_cellOf_207 rfl ⟨_, rfl, h⟩
  by_cases hs9 : l2 = 9
  · replace h := h.2.2.2.2.2.2.2.2.2.1 hs9
    refine j_tabK (k := 9) (tgt := 208) (off := 187) dX12_cellOf_21 hs9 (by decide) (by decide) (by decide) (by decide) ?_
    refine j_iload_n 0 dX12_cellOf_208 rfl ?_
    refine j_if_eq (tgt := 220) dX12_cellOf_209 (by decide) (fun hc => ?_) (fun hc => ?_)
    · replace h := h.1 hc
      refine j_iconst (v := 0) dX12_cellOf_220 (by decide) ?_
      exact j_iret dX12_cellOf_221 rfl ⟨_, rfl, h⟩
    · replace h := h.2 hc
      refine j_aload_n 1 dX12_cellOf_212 rfl ?_
      refine j_iload_n 2 dX12_cellOf_213 rfl ?_
      refine j_invV (As := [.inl l1]) dX12_cellOf_214 msRX12_322 mbX12_weeds rfl rfl (Nat.le_of_ble_eq_true rfl) (Nat.le_of_ble_eq_true rfl) (by omega) (h3 0 (by decide)) rfl rfl (k_X12_weeds (d := d + 0) h3 h) ?_
      rintro _ zM2 zN3 ⟨zr1, rfl, h⟩
      refine j_goto (tgt := 221) dX12_cellOf_217 (by decide) ?_
      exact j_iret dX12_cellOf_221 rfl ⟨_, rfl, h⟩
  by_cases hs10 : l2 = 10
  · replace h := h.2.2.2.2.2.2.2.2.2.2.1 hs10
    refine j_tabK (k := 10) (tgt := 222) (off := 201) dX12_cellOf_21 hs10 (by decide) (by decide) (by decide) (by decide) ?_
    refine j_iload_n 0 dX12_cellOf_222 rfl ?_
    refine j_if_eq (tgt := 230) dX12_cellOf_223 (by decide) (fun hc => ?_) (fun hc => ?_)
    · replace h := h.1 hc
      refine j_aload_n 1 dX12_cellOf_230 rfl ?_
      refine j_getR (b := (3, 0, 1)) dX12_cellOf_231 fsRX12_7 (h3 0 (by decide)) rfl rfl ?_
      refine j_sipush (v := 576) dX12_cellOf_234 (by decide) ?_
      refine j_iload_n 2 dX12_cellOf_237 rfl ?_
      refine j_iadd dX12_cellOf_238 ?_
      obtain ⟨hq, h⟩ := h
      refine j_iald dX12_cellOf_239 (h3 1 (by decide)) rfl hq ?_
      exact j_iret dX12_cellOf_240 rfl ⟨_, rfl, h⟩
    · replace h := h.2 hc
      refine j_iconst (v := 0) dX12_cellOf_226 (by decide) ?_
      refine j_goto (tgt := 240) dX12_cellOf_227 (by decide) ?_
      exact j_iret dX12_cellOf_240 rfl ⟨_, rfl, h⟩
  replace h := h.2.2.2.2.2.2.2.2.2.2.2 hs0 hs1 hs2 hs3 hs4 hs5 hs6 hs7 hs8 hs9 hs10
  refine j_tableOut (tgt := 241) dX12_cellOf_21 (am_sw0 (n := 10) (fun k hk => match k, hk with | 0, _ => hs0 | 1, _ => hs1 | 2, _ => hs2 | 3, _ => hs3 | 4, _ => hs4 | 5, _ => hs5 | 6, _ => hs6 | 7, _ => hs7 | 8, _ => hs8 | 9, _ => hs9 | 10, _ => hs10 | k + 11, hk => absurd hk (by omega))) (by decide) ?_
  refine j_iconst (v := (-1)) dX12_cellOf_241 (by decide) ?_
  exact j_iret dX12_cellOf_242 rfl ⟨_, rfl, h⟩
def w_X12_cellOf (a1 : Int32) (a2 : Int32) (M : am_I) (N : am_N) (post : Int32 → am_I → am_N → Prop) : Prop :=
  vp_in (192 + a1) 1635 ∧ ((¬ (M (3, 0, 1) (192 + a1).toNatClampNeg) = 1 → w_X12_cellOf_p19 post a1 a2 0 M N) ∧ ((M (3, 0, 1) (192 + a1).toNatClampNeg) = 1 → w_X12_cellOf_p19 post a1 a2 1 M N))
set_option maxRecDepth 10000 in
theorem k_X12_cellOf {d : Nat} {dm : List am_C} (h3 : am_d3 dm) {a1 : Int32} {a2 : Int32} {M : am_I} {N : am_N} {post : Int32 → am_I → am_N → Prop} (h : w_X12_cellOf a1 a2 M N post) : jg (d + 2) mX12_cellOf dm 0 [(0, .inr (.inr (3, 0, 0))), (1, .inl a1), (2, .inl a2)] [] M N (am_pi post) := by
  refine j_aload_n 0 dX12_cellOf_0 rfl ?_
  refine j_getR (b := (3, 0, 1)) dX12_cellOf_1 fsRX12_7 (h3 0 (by decide)) rfl rfl ?_
  refine j_sipush (v := 192) dX12_cellOf_4 (by decide) ?_
  refine j_iload_n 1 dX12_cellOf_7 rfl ?_
  refine j_iadd dX12_cellOf_8 ?_
  obtain ⟨hq, h⟩ := h
  refine j_iald dX12_cellOf_9 (h3 1 (by decide)) rfl hq ?_
  refine j_iconst (v := 1) dX12_cellOf_10 (by decide) ?_
  refine j_icmp_ne (tgt := 18) dX12_cellOf_11 (by decide) (fun hc => ?_) (fun hc => ?_)
  · replace h := h.1 hc
    refine j_iconst (v := 0) dX12_cellOf_18 (by decide) ?_
    refine j_sub [0, 1, 2] rfl ?_
    exact k_X12_cellOf_p19 h3 _ _ _ _ _ h
  · replace h := h.2 hc
    refine j_iconst (v := 1) dX12_cellOf_14 (by decide) ?_
    refine j_goto (tgt := 19) dX12_cellOf_15 (by decide) ?_
    refine j_sub [0, 1, 2] rfl ?_
    exact k_X12_cellOf_p19 h3 _ _ _ _ _ h
def w_X12_cell (a1 : Int32) (a2 : Int32) (M : am_I) (N : am_N) (post : Int32 → am_I → am_N → Prop) : Prop :=
  w_X12_isCell a1 M N (fun zr1 zM2 zN3 => ((zr1 = 0 → post (-1) zM2 zN3) ∧ (¬ zr1 = 0 → w_X12_cellOf a1 a2 zM2 zN3 (fun zr4 zM5 zN6 => post zr4 zM5 zN6))))
set_option maxRecDepth 10000 in
theorem k_X12_cell {d : Nat} {dm : List am_C} (h3 : am_d3 dm) {a1 : Int32} {a2 : Int32} {M : am_I} {N : am_N} {post : Int32 → am_I → am_N → Prop} (h : w_X12_cell a1 a2 M N post) : jg (d + 3) mX12_cell dm 0 [(0, .inr (.inr (3, 0, 0))), (1, .inl a1), (2, .inl a2)] [] M N (am_pi post) := by
  refine j_iload_n 1 dX12_cell_0 rfl ?_
  refine j_invS (As := [.inl a1]) dX12_cell_1 msRX12_199 mbX12_isCell rfl rfl (Nat.le_of_ble_eq_true rfl) (Nat.le_of_ble_eq_true rfl) (by omega) (k_X12_isCell (d := d + 0)  h) ?_
  rintro _ zM2 zN3 ⟨zr1, rfl, h⟩
  refine j_if_eq (tgt := 16) dX12_cell_4 (by decide) (fun hc => ?_) (fun hc => ?_)
  · replace h := h.1 hc
    refine j_iconst (v := (-1)) dX12_cell_16 (by decide) ?_
    exact j_iret dX12_cell_17 rfl ⟨_, rfl, h⟩
  · replace h := h.2 hc
    refine j_aload_n 0 dX12_cell_7 rfl ?_
    refine j_iload_n 1 dX12_cell_8 rfl ?_
    refine j_iload_n 2 dX12_cell_9 rfl ?_
    refine j_invV (As := [.inl a1, .inl a2]) dX12_cell_10 msRX12_325 mbX12_cellOf rfl rfl (Nat.le_of_ble_eq_true rfl) (Nat.le_of_ble_eq_true rfl) (by omega) (h3 0 (by decide)) rfl rfl (k_X12_cellOf (d := d + 0) h3 h) ?_
    rintro _ zM5 zN6 ⟨zr4, rfl, h⟩
    refine j_goto (tgt := 17) dX12_cell_13 (by decide) ?_
    exact j_iret dX12_cell_17 rfl ⟨_, rfl, h⟩
def w_X12_share (a1 : Int32) (a2 : Int32) (M : am_I) (N : am_N) (post : Int32 → am_I → am_N → Prop) : Prop :=
  w_X12_has a1 M N (fun zr1 zM2 zN3 => ((zr1 = 0 → post (-1) zM2 zN3) ∧ (¬ zr1 = 0 → w_X12_isIn a2 0 ((zM2 (3, 0, 0) 14) - 1) zM2 zN3 (fun zr4 zM5 zN6 => ((zr4 = 0 → post (-1) zM5 zN6) ∧ (¬ zr4 = 0 → vp_in ((640 + (5 * a1)) + a2) 1635 ∧ post (zM5 (3, 0, 1) ((640 + (5 * a1)) + a2).toNatClampNeg) zM5 zN6))))))
set_option maxRecDepth 10000 in
theorem k_X12_share {d : Nat} {dm : List am_C} (h3 : am_d3 dm) {a1 : Int32} {a2 : Int32} {M : am_I} {N : am_N} {post : Int32 → am_I → am_N → Prop} (h : w_X12_share a1 a2 M N post) : jg (d + 4) mX12_share dm 0 [(0, .inr (.inr (3, 0, 0))), (1, .inl a1), (2, .inl a2)] [] M N (am_pi post) := by
  refine j_aload_n 0 dX12_share_0 rfl ?_
  refine j_iload_n 1 dX12_share_1 rfl ?_
  refine j_invV (As := [.inl a1]) dX12_share_2 msRX12_228 mbX12_has rfl rfl (Nat.le_of_ble_eq_true rfl) (Nat.le_of_ble_eq_true rfl) (by omega) (h3 0 (by decide)) rfl rfl (k_X12_has (d := d + 0) h3 h) ?_
  rintro _ zM2 zN3 ⟨zr1, rfl, h⟩
  refine j_if_eq (tgt := 39) dX12_share_5 (by decide) (fun hc => ?_) (fun hc => ?_)
  · replace h := h.1 hc
    refine j_iconst (v := (-1)) dX12_share_39 (by decide) ?_
    exact j_iret dX12_share_40 rfl ⟨_, rfl, h⟩
  · replace h := h.2 hc
    refine j_iload_n 2 dX12_share_8 rfl ?_
    refine j_iconst (v := 0) dX12_share_9 (by decide) ?_
    refine j_aload_n 0 dX12_share_10 rfl ?_
    refine j_getI dX12_share_11 fsRX12_225 (h3 0 (by decide)) rfl ?_
    refine j_iconst (v := 1) dX12_share_14 (by decide) ?_
    refine j_isub dX12_share_15 ?_
    refine j_invS (As := [.inl a2, .inl 0, .inl ((zM2 (3, 0, 0) 14) - 1)]) dX12_share_16 msRX12_162 mbX12_isIn rfl rfl (Nat.le_of_ble_eq_true rfl) (Nat.le_of_ble_eq_true rfl) (by omega) (k_X12_isIn (d := d + 2)  h) ?_
    rintro _ zM5 zN6 ⟨zr4, rfl, h⟩
    refine j_if_eq (tgt := 39) dX12_share_19 (by decide) (fun hc => ?_) (fun hc => ?_)
    · replace h := h.1 hc
      refine j_iconst (v := (-1)) dX12_share_39 (by decide) ?_
      exact j_iret dX12_share_40 rfl ⟨_, rfl, h⟩
    · replace h := h.2 hc
      refine j_aload_n 0 dX12_share_22 rfl ?_
      refine j_getR (b := (3, 0, 1)) dX12_share_23 fsRX12_7 (h3 0 (by decide)) rfl rfl ?_
      refine j_sipush (v := 640) dX12_share_26 (by decide) ?_
      refine j_iconst (v := 5) dX12_share_29 (by decide) ?_
      refine j_iload_n 1 dX12_share_30 rfl ?_
      refine j_imul dX12_share_31 ?_
      refine j_iadd dX12_share_32 ?_
      refine j_iload_n 2 dX12_share_33 rfl ?_
      refine j_iadd dX12_share_34 ?_
      obtain ⟨hq, h⟩ := h
      refine j_iald dX12_share_35 (h3 1 (by decide)) rfl hq ?_
      refine j_goto (tgt := 40) dX12_share_36 (by decide) ?_
      exact j_iret dX12_share_40 rfl ⟨_, rfl, h⟩
def w_X12_told_p106_b (post : Int32 → am_I → am_N → Prop) (zk106 : Int32 → Int32 → Int32 → am_I → am_N → Prop) (l1 : Int32) (l3 : Int32) (l4 : Int32) (M : am_I) (N : am_N) : Prop :=
  ((64 ≤ l4 → post l3 M N) ∧ (¬ 64 ≤ l4 → vp_in ((992 + (64 * l1)) + l4) 1635 ∧ ∀ zv1 : Int32, zv1 = l3 + (M (3, 0, 1) ((992 + (64 * l1)) + l4).toNatClampNeg) → zk106 l1 zv1 (l4 + 1) M N))
noncomputable def w_X12_told_p106 (post : Int32 → am_I → am_N → Prop) (n : Nat) : Int32 → Int32 → Int32 → am_I → am_N → Prop :=
  Nat.rec (motive := fun _ => Int32 → Int32 → Int32 → am_I → am_N → Prop) (fun _ _ _ _ _ => False) (fun _ zk => w_X12_told_p106_b post zk) n
theorem w_X12_told_p106_s (post : Int32 → am_I → am_N → Prop) (n : Nat) (l1 : Int32) (l3 : Int32) (l4 : Int32) (M : am_I) (N : am_N) : w_X12_told_p106 post (n + 1) l1 l3 l4 M N = w_X12_told_p106_b post (w_X12_told_p106 post n) l1 l3 l4 M N := rfl
set_option maxRecDepth 10000 in
theorem k_X12_told_p106 {d : Nat} {dm : List am_C} (h3 : am_d3 dm) {post : Int32 → am_I → am_N → Prop} : ∀ (n : Nat) (l1 : Int32) (l3 : Int32) (l4 : Int32) (M : am_I) (N : am_N), w_X12_told_p106 post n l1 l3 l4 M N → jg (d + 3) mX12_told dm 106 [(0, .inr (.inr (3, 0, 0))), (1, .inl l1), (3, .inl l3), (4, .inl l4)] [] M N (am_pi post) := by
  intro n
  induction n with
  | zero => intro l1 l3 l4 M N h; exact h.elim
  | succ n zih =>
    intro l1 l3 l4 M N h
    replace h : w_X12_told_p106_b post (w_X12_told_p106 post n) l1 l3 l4 M N := h
    refine j_iload 3 dX12_told_106 rfl ?_
    refine j_bipush (v := 64) dX12_told_108 (by decide) ?_
    refine j_icmp_ge (tgt := 138) dX12_told_110 (by decide) (fun hc => ?_) (fun hc => ?_)
    · replace h := h.1 hc
      refine j_iload_n 2 dX12_told_138 rfl ?_
      exact j_iret dX12_told_139 rfl ⟨_, rfl, h⟩
    · replace h := h.2 hc
      refine j_iload_n 2 dX12_told_113 rfl ?_
      refine j_aload_n 0 dX12_told_114 rfl ?_
      refine j_getR (b := (3, 0, 1)) dX12_told_115 fsRX12_7 (h3 0 (by decide)) rfl rfl ?_
      refine j_sipush (v := 992) dX12_told_118 (by decide) ?_
      refine j_bipush (v := 64) dX12_told_121 (by decide) ?_
      refine j_iload_n 1 dX12_told_123 rfl ?_
      refine j_imul dX12_told_124 ?_
      refine j_iadd dX12_told_125 ?_
      refine j_iload 3 dX12_told_126 rfl ?_
      refine j_iadd dX12_told_128 ?_
      obtain ⟨hq, h⟩ := h
      refine j_iald dX12_told_129 (h3 1 (by decide)) rfl hq ?_
      refine j_iadd dX12_told_130 ?_
      refine j_topi (fun zv1 hzv1 => ?_)
      replace h := h zv1 hzv1
      refine j_istore_n dX12_told_131 (by decide) rfl ?_
      refine j_iinc 3 dX12_told_132 rfl rfl (by decide) rfl ?_
      refine j_goto (tgt := 106) dX12_told_135 (by decide) ?_
      refine j_sub [2, 3, 1, 0] rfl ?_
      exact zih _ _ _ _ _ h
def w_X12_told (a1 : Int32) (a2 : Int32) (M : am_I) (N : am_N) (post : Int32 → am_I → am_N → Prop) : Prop :=
  w_X12_isCart a1 M N (fun zr1 zM2 zN3 => ((¬ zr1 = 0 → ((a2 = 0 → vp_in a1 8 ∧ post (zM2 (3, 0, 11) a1.toNatClampNeg) zM2 zN3) ∧ (a2 = 1 → vp_in (960 + a1) 1635 ∧ post (zM2 (3, 0, 1) (960 + a1).toNatClampNeg) zM2 zN3) ∧ (a2 = 2 → vp_in (968 + a1) 1635 ∧ post (zM2 (3, 0, 1) (968 + a1).toNatClampNeg) zM2 zN3) ∧ (a2 = 3 → vp_in (976 + a1) 1635 ∧ post (zM2 (3, 0, 1) (976 + a1).toNatClampNeg) zM2 zN3) ∧ (a2 = 4 → vp_in (984 + a1) 1635 ∧ post (zM2 (3, 0, 1) (984 + a1).toNatClampNeg) zM2 zN3) ∧ (a2 = 5 → ∃ n, w_X12_told_p106 post n a1 0 0 zM2 zN3) ∧ (¬ a2 = 0 → ¬ a2 = 1 → ¬ a2 = 2 → ¬ a2 = 3 → ¬ a2 = 4 → ¬ a2 = 5 → w_X12_isIn a2 100 163 zM2 zN3 (fun zr4 zM5 zN6 => ((zr4 = 0 → post (-2) zM5 zN6) ∧ (¬ zr4 = 0 → vp_in (((992 + (64 * a1)) + a2) - 100) 1635 ∧ post (zM5 (3, 0, 1) (((992 + (64 * a1)) + a2) - 100).toNatClampNeg) zM5 zN6)))))) ∧ (zr1 = 0 → post (-2) zM2 zN3)))
set_option maxRecDepth 10000 in
theorem k_X12_told {d : Nat} {dm : List am_C} (h3 : am_d3 dm) {a1 : Int32} {a2 : Int32} {M : am_I} {N : am_N} {post : Int32 → am_I → am_N → Prop} (h : w_X12_told a1 a2 M N post) : jg (d + 3) mX12_told dm 0 [(0, .inr (.inr (3, 0, 0))), (1, .inl a1), (2, .inl a2)] [] M N (am_pi post) := by
  refine j_aload_n 0 dX12_told_0 rfl ?_
  refine j_iload_n 1 dX12_told_1 rfl ?_
  refine j_invV (As := [.inl a1]) dX12_told_2 msRX12_216 mbX12_isCart rfl rfl (Nat.le_of_ble_eq_true rfl) (Nat.le_of_ble_eq_true rfl) (by omega) (h3 0 (by decide)) rfl rfl (k_X12_isCart (d := d + 0) h3 h) ?_
  rintro _ zM2 zN3 ⟨zr1, rfl, h⟩
  refine j_if_ne (tgt := 11) dX12_told_5 (by decide) (fun hc => ?_) (fun hc => ?_)
  · replace h := h.1 hc
    refine j_iconst (v := 0) dX12_told_11 (by decide) ?_
    refine j_istore_n dX12_told_12 (by decide) rfl ?_
    refine j_iload_n 3 dX12_told_13 rfl ?_
    by_cases hs0 : a2 = 0
    · replace h := h.1 hs0
      refine j_tabK (k := 0) (tgt := 52) (off := 38) dX12_told_14 hs0 (by decide) (by decide) (by decide) (by decide) ?_
      refine j_aload_n 1 dX12_told_52 rfl ?_
      refine j_getR (b := (3, 0, 11)) dX12_told_53 fsRX12_40 (h3 0 (by decide)) rfl rfl ?_
      refine j_iload_n 2 dX12_told_56 rfl ?_
      obtain ⟨hq, h⟩ := h
      refine j_iald dX12_told_57 (h3 11 (by decide)) rfl hq ?_
      exact j_iret dX12_told_58 rfl ⟨_, rfl, h⟩
    by_cases hs1 : a2 = 1
    · replace h := h.2.1 hs1
      refine j_tabK (k := 1) (tgt := 59) (off := 45) dX12_told_14 hs1 (by decide) (by decide) (by decide) (by decide) ?_
      refine j_aload_n 1 dX12_told_59 rfl ?_
      refine j_getR (b := (3, 0, 1)) dX12_told_60 fsRX12_7 (h3 0 (by decide)) rfl rfl ?_
      refine j_sipush (v := 960) dX12_told_63 (by decide) ?_
      refine j_iload_n 2 dX12_told_66 rfl ?_
      refine j_iadd dX12_told_67 ?_
      obtain ⟨hq, h⟩ := h
      refine j_iald dX12_told_68 (h3 1 (by decide)) rfl hq ?_
      exact j_iret dX12_told_69 rfl ⟨_, rfl, h⟩
    by_cases hs2 : a2 = 2
    · replace h := h.2.2.1 hs2
      refine j_tabK (k := 2) (tgt := 70) (off := 56) dX12_told_14 hs2 (by decide) (by decide) (by decide) (by decide) ?_
      refine j_aload_n 1 dX12_told_70 rfl ?_
      refine j_getR (b := (3, 0, 1)) dX12_told_71 fsRX12_7 (h3 0 (by decide)) rfl rfl ?_
      refine j_sipush (v := 968) dX12_told_74 (by decide) ?_
      refine j_iload_n 2 dX12_told_77 rfl ?_
      refine j_iadd dX12_told_78 ?_
      obtain ⟨hq, h⟩ := h
      refine j_iald dX12_told_79 (h3 1 (by decide)) rfl hq ?_
      exact j_iret dX12_told_80 rfl ⟨_, rfl, h⟩
    by_cases hs3 : a2 = 3
    · replace h := h.2.2.2.1 hs3
      refine j_tabK (k := 3) (tgt := 81) (off := 67) dX12_told_14 hs3 (by decide) (by decide) (by decide) (by decide) ?_
      refine j_aload_n 1 dX12_told_81 rfl ?_
      refine j_getR (b := (3, 0, 1)) dX12_told_82 fsRX12_7 (h3 0 (by decide)) rfl rfl ?_
      refine j_sipush (v := 976) dX12_told_85 (by decide) ?_
      refine j_iload_n 2 dX12_told_88 rfl ?_
      refine j_iadd dX12_told_89 ?_
      obtain ⟨hq, h⟩ := h
      refine j_iald dX12_told_90 (h3 1 (by decide)) rfl hq ?_
      exact j_iret dX12_told_91 rfl ⟨_, rfl, h⟩
    by_cases hs4 : a2 = 4
    · replace h := h.2.2.2.2.1 hs4
      refine j_tabK (k := 4) (tgt := 92) (off := 78) dX12_told_14 hs4 (by decide) (by decide) (by decide) (by decide) ?_
      refine j_aload_n 1 dX12_told_92 rfl ?_
      refine j_getR (b := (3, 0, 1)) dX12_told_93 fsRX12_7 (h3 0 (by decide)) rfl rfl ?_
      refine j_sipush (v := 984) dX12_told_96 (by decide) ?_
      refine j_iload_n 2 dX12_told_99 rfl ?_
      refine j_iadd dX12_told_100 ?_
      obtain ⟨hq, h⟩ := h
      refine j_iald dX12_told_101 (h3 1 (by decide)) rfl hq ?_
      exact j_iret dX12_told_102 rfl ⟨_, rfl, h⟩
    by_cases hs5 : a2 = 5
    · replace h := h.2.2.2.2.2.1 hs5
      refine j_tabK (k := 5) (tgt := 103) (off := 89) dX12_told_14 hs5 (by decide) (by decide) (by decide) (by decide) ?_
      refine j_iconst (v := 0) dX12_told_103 (by decide) ?_
      refine j_istore dX12_told_104 (by decide) rfl ?_
      refine j_sub [2, 3, 1, 0] rfl ?_
      obtain ⟨n, h⟩ := h
      exact k_X12_told_p106 h3 n _ _ _ _ _ h
    replace h := h.2.2.2.2.2.2 hs0 hs1 hs2 hs3 hs4 hs5
    refine j_tableOut (tgt := 140) dX12_told_14 (am_sw0 (n := 5) (fun k hk => match k, hk with | 0, _ => hs0 | 1, _ => hs1 | 2, _ => hs2 | 3, _ => hs3 | 4, _ => hs4 | 5, _ => hs5 | k + 6, hk => absurd hk (by omega))) (by decide) ?_
    refine j_iload_n 3 dX12_told_140 rfl ?_
    refine j_bipush (v := 100) dX12_told_141 (by decide) ?_
    refine j_sipush (v := 163) dX12_told_143 (by decide) ?_
    refine j_invS (As := [.inl a2, .inl 100, .inl 163]) dX12_told_146 msRX12_162 mbX12_isIn rfl rfl (Nat.le_of_ble_eq_true rfl) (Nat.le_of_ble_eq_true rfl) (by omega) (k_X12_isIn (d := d + 1)  h) ?_
    rintro _ zM5 zN6 ⟨zr4, rfl, h⟩
    refine j_if_eq (tgt := 173) dX12_told_149 (by decide) (fun hc => ?_) (fun hc => ?_)
    · replace h := h.1 hc
      refine j_bipush (v := (-2)) dX12_told_173 (by decide) ?_
      exact j_iret dX12_told_175 rfl ⟨_, rfl, h⟩
    · replace h := h.2 hc
      refine j_aload_n 1 dX12_told_152 rfl ?_
      refine j_getR (b := (3, 0, 1)) dX12_told_153 fsRX12_7 (h3 0 (by decide)) rfl rfl ?_
      refine j_sipush (v := 992) dX12_told_156 (by decide) ?_
      refine j_bipush (v := 64) dX12_told_159 (by decide) ?_
      refine j_iload_n 2 dX12_told_161 rfl ?_
      refine j_imul dX12_told_162 ?_
      refine j_iadd dX12_told_163 ?_
      refine j_iload_n 3 dX12_told_164 rfl ?_
      refine j_iadd dX12_told_165 ?_
      refine j_bipush (v := 100) dX12_told_166 (by decide) ?_
      refine j_isub dX12_told_168 ?_
      obtain ⟨hq, h⟩ := h
      refine j_iald dX12_told_169 (h3 1 (by decide)) rfl hq ?_
      refine j_goto (tgt := 175) dX12_told_170 (by decide) ?_
      exact j_iret dX12_told_175 rfl ⟨_, rfl, h⟩
  · replace h := h.2 hc
    refine j_bipush (v := (-2)) dX12_told_8 (by decide) ?_
    exact j_iret dX12_told_10 rfl ⟨_, rfl, h⟩
def w_X12_job (a1 : Int32) (a2 : Int32) (M : am_I) (N : am_N) (post : Int32 → am_I → am_N → Prop) : Prop :=
  w_X12_isIn a1 0 ((M (3, 0, 0) 12) - 1) M N (fun zr1 zM2 zN3 => ((¬ zr1 = 0 → ((a2 = 0 → vp_in a1 60 ∧ post (zM2 (3, 0, 16) a1.toNatClampNeg) zM2 zN3) ∧ (a2 = 1 → vp_in a1 60 ∧ post (zM2 (3, 0, 17) a1.toNatClampNeg) zM2 zN3) ∧ (a2 = 2 → vp_in a1 60 ∧ post (zM2 (3, 0, 18) a1.toNatClampNeg) zM2 zN3) ∧ (a2 = 3 → vp_in (1504 + a1) 1635 ∧ post (zM2 (3, 0, 1) (1504 + a1).toNatClampNeg) zM2 zN3) ∧ (a2 = 4 → vp_in (1564 + a1) 1635 ∧ post (zM2 (3, 0, 1) (1564 + a1).toNatClampNeg) zM2 zN3) ∧ (¬ a2 = 0 → ¬ a2 = 1 → ¬ a2 = 2 → ¬ a2 = 3 → ¬ a2 = 4 → post (-2) zM2 zN3))) ∧ (zr1 = 0 → post (-2) zM2 zN3)))
set_option maxRecDepth 10000 in
theorem k_X12_job {d : Nat} {dm : List am_C} (h3 : am_d3 dm) {a1 : Int32} {a2 : Int32} {M : am_I} {N : am_N} {post : Int32 → am_I → am_N → Prop} (h : w_X12_job a1 a2 M N post) : jg (d + 2) mX12_job dm 0 [(0, .inr (.inr (3, 0, 0))), (1, .inl a1), (2, .inl a2)] [] M N (am_pi post) := by
  refine j_iload_n 1 dX12_job_0 rfl ?_
  refine j_iconst (v := 0) dX12_job_1 (by decide) ?_
  refine j_aload_n 0 dX12_job_2 rfl ?_
  refine j_getI dX12_job_3 fsRX12_219 (h3 0 (by decide)) rfl ?_
  refine j_iconst (v := 1) dX12_job_6 (by decide) ?_
  refine j_isub dX12_job_7 ?_
  refine j_invS (As := [.inl a1, .inl 0, .inl ((M (3, 0, 0) 12) - 1)]) dX12_job_8 msRX12_162 mbX12_isIn rfl rfl (Nat.le_of_ble_eq_true rfl) (Nat.le_of_ble_eq_true rfl) (by omega) (k_X12_isIn (d := d + 0)  h) ?_
  rintro _ zM2 zN3 ⟨zr1, rfl, h⟩
  refine j_if_ne (tgt := 17) dX12_job_11 (by decide) (fun hc => ?_) (fun hc => ?_)
  · replace h := h.1 hc
    refine j_iload_n 2 dX12_job_17 rfl ?_
    by_cases hs0 : a2 = 0
    · replace h := h.1 hs0
      refine j_tabK (k := 0) (tgt := 52) (off := 34) dX12_job_18 hs0 (by decide) (by decide) (by decide) (by decide) ?_
      refine j_aload_n 0 dX12_job_52 rfl ?_
      refine j_getR (b := (3, 0, 16)) dX12_job_53 fsRX12_55 (h3 0 (by decide)) rfl rfl ?_
      refine j_iload_n 1 dX12_job_56 rfl ?_
      obtain ⟨hq, h⟩ := h
      refine j_iald dX12_job_57 (h3 16 (by decide)) rfl hq ?_
      exact j_iret dX12_job_58 rfl ⟨_, rfl, h⟩
    by_cases hs1 : a2 = 1
    · replace h := h.2.1 hs1
      refine j_tabK (k := 1) (tgt := 59) (off := 41) dX12_job_18 hs1 (by decide) (by decide) (by decide) (by decide) ?_
      refine j_aload_n 0 dX12_job_59 rfl ?_
      refine j_getR (b := (3, 0, 17)) dX12_job_60 fsRX12_58 (h3 0 (by decide)) rfl rfl ?_
      refine j_iload_n 1 dX12_job_63 rfl ?_
      obtain ⟨hq, h⟩ := h
      refine j_iald dX12_job_64 (h3 17 (by decide)) rfl hq ?_
      exact j_iret dX12_job_65 rfl ⟨_, rfl, h⟩
    by_cases hs2 : a2 = 2
    · replace h := h.2.2.1 hs2
      refine j_tabK (k := 2) (tgt := 66) (off := 48) dX12_job_18 hs2 (by decide) (by decide) (by decide) (by decide) ?_
      refine j_aload_n 0 dX12_job_66 rfl ?_
      refine j_getR (b := (3, 0, 18)) dX12_job_67 fsRX12_61 (h3 0 (by decide)) rfl rfl ?_
      refine j_iload_n 1 dX12_job_70 rfl ?_
      obtain ⟨hq, h⟩ := h
      refine j_iald dX12_job_71 (h3 18 (by decide)) rfl hq ?_
      exact j_iret dX12_job_72 rfl ⟨_, rfl, h⟩
    by_cases hs3 : a2 = 3
    · replace h := h.2.2.2.1 hs3
      refine j_tabK (k := 3) (tgt := 73) (off := 55) dX12_job_18 hs3 (by decide) (by decide) (by decide) (by decide) ?_
      refine j_aload_n 0 dX12_job_73 rfl ?_
      refine j_getR (b := (3, 0, 1)) dX12_job_74 fsRX12_7 (h3 0 (by decide)) rfl rfl ?_
      refine j_sipush (v := 1504) dX12_job_77 (by decide) ?_
      refine j_iload_n 1 dX12_job_80 rfl ?_
      refine j_iadd dX12_job_81 ?_
      obtain ⟨hq, h⟩ := h
      refine j_iald dX12_job_82 (h3 1 (by decide)) rfl hq ?_
      exact j_iret dX12_job_83 rfl ⟨_, rfl, h⟩
    by_cases hs4 : a2 = 4
    · replace h := h.2.2.2.2.1 hs4
      refine j_tabK (k := 4) (tgt := 84) (off := 66) dX12_job_18 hs4 (by decide) (by decide) (by decide) (by decide) ?_
      refine j_aload_n 0 dX12_job_84 rfl ?_
      refine j_getR (b := (3, 0, 1)) dX12_job_85 fsRX12_7 (h3 0 (by decide)) rfl rfl ?_
      refine j_sipush (v := 1564) dX12_job_88 (by decide) ?_
      refine j_iload_n 1 dX12_job_91 rfl ?_
      refine j_iadd dX12_job_92 ?_
      obtain ⟨hq, h⟩ := h
      refine j_iald dX12_job_93 (h3 1 (by decide)) rfl hq ?_
      exact j_iret dX12_job_94 rfl ⟨_, rfl, h⟩
    replace h := h.2.2.2.2.2 hs0 hs1 hs2 hs3 hs4
    refine j_tableOut (tgt := 95) dX12_job_18 (am_sw0 (n := 4) (fun k hk => match k, hk with | 0, _ => hs0 | 1, _ => hs1 | 2, _ => hs2 | 3, _ => hs3 | 4, _ => hs4 | k + 5, hk => absurd hk (by omega))) (by decide) ?_
    refine j_bipush (v := (-2)) dX12_job_95 (by decide) ?_
    exact j_iret dX12_job_97 rfl ⟨_, rfl, h⟩
  · replace h := h.2 hc
    refine j_bipush (v := (-2)) dX12_job_14 (by decide) ?_
    exact j_iret dX12_job_16 rfl ⟨_, rfl, h⟩
def w_X12_water_p5_b (post : Int64 → am_I → am_N → Prop) (zk5 : Int32 → Int64 → Int32 → am_I → am_N → Prop) (l1 : Int32) (l2 : Int64) (l4 : Int32) (M : am_I) (N : am_N) : Prop :=
  ((64 ≤ l4 → ((¬ l1 = 0 → ((¬ l1 = 1 → ((¬ l1 = 2 → post (-1) M N) ∧ (l1 = 2 → post (N (3, 0, 0) 3) M N))) ∧ (l1 = 1 → post (N (3, 0, 0) 2) M N))) ∧ (l1 = 0 → post l2 M N))) ∧ (¬ 64 ≤ l4 → vp_in (64 + l4) 1635 ∧ ∀ zv1 : Int64, zv1 = l2 + ((M (3, 0, 1) (64 + l4).toNatClampNeg).toInt64) → zk5 l1 zv1 (l4 + 1) M N))
noncomputable def w_X12_water_p5 (post : Int64 → am_I → am_N → Prop) (n : Nat) : Int32 → Int64 → Int32 → am_I → am_N → Prop :=
  Nat.rec (motive := fun _ => Int32 → Int64 → Int32 → am_I → am_N → Prop) (fun _ _ _ _ _ => False) (fun _ zk => w_X12_water_p5_b post zk) n
theorem w_X12_water_p5_s (post : Int64 → am_I → am_N → Prop) (n : Nat) (l1 : Int32) (l2 : Int64) (l4 : Int32) (M : am_I) (N : am_N) : w_X12_water_p5 post (n + 1) l1 l2 l4 M N = w_X12_water_p5_b post (w_X12_water_p5 post n) l1 l2 l4 M N := rfl
set_option maxRecDepth 10000 in
theorem k_X12_water_p5 {d : Nat} {dm : List am_C} (h3 : am_d3 dm) {post : Int64 → am_I → am_N → Prop} : ∀ (n : Nat) (l1 : Int32) (l2 : Int64) (l4 : Int32) (M : am_I) (N : am_N), w_X12_water_p5 post n l1 l2 l4 M N → jg (d + 1) mX12_water dm 5 [(0, .inr (.inr (3, 0, 0))), (1, .inl l1), (2, .inr (.inl l2)), (4, .inl l4)] [] M N (am_pl post) := by
  intro n
  induction n with
  | zero => intro l1 l2 l4 M N h; exact h.elim
  | succ n zih =>
    intro l1 l2 l4 M N h
    replace h : w_X12_water_p5_b post (w_X12_water_p5 post n) l1 l2 l4 M N := h
    refine j_iload 3 dX12_water_5 rfl ?_
    refine j_bipush (v := 64) dX12_water_7 (by decide) ?_
    refine j_icmp_ge (tgt := 32) dX12_water_9 (by decide) (fun hc => ?_) (fun hc => ?_)
    · replace h := h.1 hc
      refine j_iload_n 1 dX12_water_32 rfl ?_
      refine j_if_ne (tgt := 40) dX12_water_33 (by decide) (fun hc => ?_) (fun hc => ?_)
      · replace h := h.1 hc
        refine j_iload_n 1 dX12_water_40 rfl ?_
        refine j_iconst (v := 1) dX12_water_41 (by decide) ?_
        refine j_icmp_ne (tgt := 52) dX12_water_42 (by decide) (fun hc => ?_) (fun hc => ?_)
        · replace h := h.1 hc
          refine j_iload_n 1 dX12_water_52 rfl ?_
          refine j_iconst (v := 2) dX12_water_53 (by decide) ?_
          refine j_icmp_ne (tgt := 64) dX12_water_54 (by decide) (fun hc => ?_) (fun hc => ?_)
          · replace h := h.1 hc
            refine j_ldc2 (v := (-1)) dX12_water_64 cw_1775 ?_
            exact j_lret dX12_water_67 rfl ⟨_, rfl, h⟩
          · replace h := h.2 hc
            refine j_aload_n 0 dX12_water_57 rfl ?_
            refine j_getL dX12_water_58 fsRX12_159 (h3 0 (by decide)) rfl ?_
            refine j_goto (tgt := 67) dX12_water_61 (by decide) ?_
            exact j_lret dX12_water_67 rfl ⟨_, rfl, h⟩
        · replace h := h.2 hc
          refine j_aload_n 0 dX12_water_45 rfl ?_
          refine j_getL dX12_water_46 fsRX12_155 (h3 0 (by decide)) rfl ?_
          refine j_goto (tgt := 67) dX12_water_49 (by decide) ?_
          exact j_lret dX12_water_67 rfl ⟨_, rfl, h⟩
      · replace h := h.2 hc
        refine j_lload_n 2 dX12_water_36 rfl ?_
        refine j_goto (tgt := 67) dX12_water_37 (by decide) ?_
        exact j_lret dX12_water_67 rfl ⟨_, rfl, h⟩
    · replace h := h.2 hc
      refine j_lload_n 2 dX12_water_12 rfl ?_
      refine j_aload_n 0 dX12_water_13 rfl ?_
      refine j_getR (b := (3, 0, 1)) dX12_water_14 fsRX12_7 (h3 0 (by decide)) rfl rfl ?_
      refine j_bipush (v := 64) dX12_water_17 (by decide) ?_
      refine j_iload 3 dX12_water_19 rfl ?_
      refine j_iadd dX12_water_21 ?_
      obtain ⟨hq, h⟩ := h
      refine j_iald dX12_water_22 (h3 1 (by decide)) rfl hq ?_
      refine j_i2l dX12_water_23 ?_
      refine j_ladd dX12_water_24 ?_
      refine j_topl (fun zv1 hzv1 => ?_)
      replace h := h zv1 hzv1
      refine j_lstore_n dX12_water_25 (by decide) rfl ?_
      refine j_iinc 3 dX12_water_26 rfl rfl (by decide) rfl ?_
      refine j_goto (tgt := 5) dX12_water_29 (by decide) ?_
      refine j_sub [2, 3, 1, 0] rfl ?_
      exact zih _ _ _ _ _ h
def w_X12_water (a1 : Int32) (M : am_I) (N : am_N) (post : Int64 → am_I → am_N → Prop) : Prop :=
  ∃ n, w_X12_water_p5 post n a1 0 0 M N
set_option maxRecDepth 10000 in
theorem k_X12_water {d : Nat} {dm : List am_C} (h3 : am_d3 dm) {a1 : Int32} {M : am_I} {N : am_N} {post : Int64 → am_I → am_N → Prop} (h : w_X12_water a1 M N post) : jg (d + 1) mX12_water dm 0 [(0, .inr (.inr (3, 0, 0))), (1, .inl a1)] [] M N (am_pl post) := by
  refine j_lconst (v := 0) dX12_water_0 (by decide) ?_
  refine j_lstore_n dX12_water_1 (by decide) rfl ?_
  refine j_iconst (v := 0) dX12_water_2 (by decide) ?_
  refine j_istore dX12_water_3 (by decide) rfl ?_
  refine j_sub [2, 3, 1, 0] rfl ?_
  obtain ⟨n, h⟩ := h
  exact k_X12_water_p5 h3 n _ _ _ _ _ h
def w_X12_spreads_p55_b (post : am_I → am_N → Prop) (zk2 : Int32 → Int32 → am_I → am_N → Prop) (zk10 : Int32 → Int32 → Int32 → am_I → am_N → Prop) (zk55 : Int32 → Int32 → Int32 → Int32 → am_I → am_N → Prop) (l1 : Int32) (l3 : Int32) (l4 : Int32) (l5 : Int32) (M : am_I) (N : am_N) : Prop :=
  ((4 ≤ l5 → zk10 l1 l3 (l4 + 1) M N) ∧ (¬ 4 ≤ l5 → w_X12_beside l4 l5 M N (fun zr1 zM2 zN3 => ((zr1 = (-1) → zk55 l1 l3 l4 (l5 + 1) zM2 zN3) ∧ (¬ zr1 = (-1) → w_X12_beside l4 l5 zM2 zN3 (fun zr4 zM5 zN6 => vp_in zr4 64 ∧ ((¬ (zM5 (3, 0, 29) zr4.toNatClampNeg) = (l3 - 1) → zk55 l1 l3 l4 (l5 + 1) zM5 zN6) ∧ ((zM5 (3, 0, 29) zr4.toNatClampNeg) = (l3 - 1) → vp_in l4 64 ∧ zk55 l1 l3 l4 (l5 + 1) (am_u zM5 (3, 0, 29) l4.toNatClampNeg l3) zN6))))))))
noncomputable def w_X12_spreads_p55 (post : am_I → am_N → Prop) (zk2 : Int32 → Int32 → am_I → am_N → Prop) (zk10 : Int32 → Int32 → Int32 → am_I → am_N → Prop) (n : Nat) : Int32 → Int32 → Int32 → Int32 → am_I → am_N → Prop :=
  Nat.rec (motive := fun _ => Int32 → Int32 → Int32 → Int32 → am_I → am_N → Prop) (fun _ _ _ _ _ _ => False) (fun _ zk => w_X12_spreads_p55_b post zk2 zk10 zk) n
theorem w_X12_spreads_p55_s (post : am_I → am_N → Prop) (zk2 : Int32 → Int32 → am_I → am_N → Prop) (zk10 : Int32 → Int32 → Int32 → am_I → am_N → Prop) (n : Nat) (l1 : Int32) (l3 : Int32) (l4 : Int32) (l5 : Int32) (M : am_I) (N : am_N) : w_X12_spreads_p55 post zk2 zk10 (n + 1) l1 l3 l4 l5 M N = w_X12_spreads_p55_b post zk2 zk10 (w_X12_spreads_p55 post zk2 zk10 n) l1 l3 l4 l5 M N := rfl
set_option maxRecDepth 10000 in
theorem k_X12_spreads_p55 {d : Nat} {dm : List am_C} (h3 : am_d3 dm) {post : am_I → am_N → Prop} {zk2 : Int32 → Int32 → am_I → am_N → Prop} {zk10 : Int32 → Int32 → Int32 → am_I → am_N → Prop} (zhk2 : ∀ (l1 : Int32) (l3 : Int32) (M : am_I) (N : am_N), zk2 l1 l3 M N → jg (d + 2) mX12_spreads dm 2 [(0, .inr (.inr (3, 0, 0))), (1, .inl l1), (2, .inr (.inr (3, 0, 30))), (3, .inl l3)] [] M N (am_pv post)) (zhk10 : ∀ (l1 : Int32) (l3 : Int32) (l4 : Int32) (M : am_I) (N : am_N), zk10 l1 l3 l4 M N → jg (d + 2) mX12_spreads dm 10 [(0, .inr (.inr (3, 0, 0))), (1, .inl l1), (2, .inr (.inr (3, 0, 30))), (3, .inl l3), (4, .inl l4)] [] M N (am_pv post)) : ∀ (n : Nat) (l1 : Int32) (l3 : Int32) (l4 : Int32) (l5 : Int32) (M : am_I) (N : am_N), w_X12_spreads_p55 post zk2 zk10 n l1 l3 l4 l5 M N → jg (d + 2) mX12_spreads dm 55 [(0, .inr (.inr (3, 0, 0))), (1, .inl l1), (2, .inr (.inr (3, 0, 30))), (3, .inl l3), (4, .inl l4), (5, .inl l5)] [] M N (am_pv post) := by
  intro n
  induction n with
  | zero => intro l1 l3 l4 l5 M N h; exact h.elim
  | succ n zih =>
    intro l1 l3 l4 l5 M N h
    replace h : w_X12_spreads_p55_b post zk2 zk10 (w_X12_spreads_p55 post zk2 zk10 n) l1 l3 l4 l5 M N := h
    refine j_iload 5 dX12_spreads_55 rfl ?_
    refine j_iconst (v := 4) dX12_spreads_57 (by decide) ?_
    refine j_icmp_ge (tgt := 104) dX12_spreads_58 (by decide) (fun hc => ?_) (fun hc => ?_)
    · replace h := h.1 hc
      refine j_iinc 4 dX12_spreads_104 rfl rfl (by decide) rfl ?_
      refine j_goto (tgt := 10) dX12_spreads_107 (by decide) ?_
      refine j_sub [1, 2, 3, 4, 0] rfl ?_
      exact zhk10 _ _ _ _ _ h
    · replace h := h.2 hc
      refine j_iload 4 dX12_spreads_61 rfl ?_
      refine j_iload 5 dX12_spreads_63 rfl ?_
      refine j_invS (As := [.inl l4, .inl l5]) dX12_spreads_65 msRX12_257 mbX12_beside rfl rfl (Nat.le_of_ble_eq_true rfl) (Nat.le_of_ble_eq_true rfl) (by omega) (k_X12_beside (d := d + 0)  h) ?_
      rintro _ zM2 zN3 ⟨zr1, rfl, h⟩
      refine j_iconst (v := (-1)) dX12_spreads_68 (by decide) ?_
      refine j_icmp_eq (tgt := 98) dX12_spreads_69 (by decide) (fun hc => ?_) (fun hc => ?_)
      · replace h := h.1 hc
        refine j_iinc 5 dX12_spreads_98 rfl rfl (by decide) rfl ?_
        refine j_goto (tgt := 55) dX12_spreads_101 (by decide) ?_
        refine j_sub [1, 2, 3, 4, 5, 0] rfl ?_
        exact zih _ _ _ _ _ _ h
      · replace h := h.2 hc
        refine j_aload_n 0 dX12_spreads_72 rfl ?_
        refine j_getR (b := (3, 0, 29)) dX12_spreads_73 fsRX12_100 (h3 0 (by decide)) rfl rfl ?_
        refine j_iload 4 dX12_spreads_76 rfl ?_
        refine j_iload 5 dX12_spreads_78 rfl ?_
        refine j_invS (As := [.inl l4, .inl l5]) dX12_spreads_80 msRX12_257 mbX12_beside rfl rfl (Nat.le_of_ble_eq_true rfl) (Nat.le_of_ble_eq_true rfl) (by omega) (k_X12_beside (d := d + 0)  h) ?_
        rintro _ zM5 zN6 ⟨zr4, rfl, h⟩
        obtain ⟨hq, h⟩ := h
        refine j_iald dX12_spreads_83 (h3 29 (by decide)) rfl hq ?_
        refine j_iload_n 3 dX12_spreads_84 rfl ?_
        refine j_iconst (v := 1) dX12_spreads_85 (by decide) ?_
        refine j_isub dX12_spreads_86 ?_
        refine j_icmp_ne (tgt := 98) dX12_spreads_87 (by decide) (fun hc => ?_) (fun hc => ?_)
        · replace h := h.1 hc
          refine j_iinc 5 dX12_spreads_98 rfl rfl (by decide) rfl ?_
          refine j_goto (tgt := 55) dX12_spreads_101 (by decide) ?_
          refine j_sub [1, 2, 3, 4, 5, 0] rfl ?_
          exact zih _ _ _ _ _ _ h
        · replace h := h.2 hc
          refine j_aload_n 0 dX12_spreads_90 rfl ?_
          refine j_getR (b := (3, 0, 29)) dX12_spreads_91 fsRX12_100 (h3 0 (by decide)) rfl rfl ?_
          refine j_iload 4 dX12_spreads_94 rfl ?_
          refine j_iload_n 3 dX12_spreads_96 rfl ?_
          obtain ⟨hq, h⟩ := h
          refine j_iast dX12_spreads_97 (h3 29 (by decide)) rfl hq ?_
          refine j_iinc 5 dX12_spreads_98 rfl rfl (by decide) rfl ?_
          refine j_goto (tgt := 55) dX12_spreads_101 (by decide) ?_
          refine j_sub [1, 2, 3, 4, 5, 0] rfl ?_
          exact zih _ _ _ _ _ _ h
def w_X12_spreads_p10_b (post : am_I → am_N → Prop) (zk2 : Int32 → Int32 → am_I → am_N → Prop) (zk10 : Int32 → Int32 → Int32 → am_I → am_N → Prop) (l1 : Int32) (l3 : Int32) (l4 : Int32) (M : am_I) (N : am_N) : Prop :=
  ((64 ≤ l4 → zk2 l1 (l3 + 1) M N) ∧ (¬ 64 ≤ l4 → vp_in l4 64 ∧ ((¬ (M (3, 0, 29) l4.toNatClampNeg) = (-1) → zk10 l1 l3 (l4 + 1) M N) ∧ ((M (3, 0, 29) l4.toNatClampNeg) = (-1) → vp_in (192 + l4) 1635 ∧ (((M (3, 0, 1) (192 + l4).toNatClampNeg) = 0 → zk10 l1 l3 (l4 + 1) M N) ∧ (¬ (M (3, 0, 1) (192 + l4).toNatClampNeg) = 0 → vp_in l4 64 ∧ (((M (3, 0, 30) l4.toNatClampNeg) = 0 → ∃ n, w_X12_spreads_p55 post zk2 zk10 n l1 l3 l4 0 M N) ∧ (¬ (M (3, 0, 30) l4.toNatClampNeg) = 0 → zk10 l1 l3 (l4 + 1) M N))))))))
noncomputable def w_X12_spreads_p10 (post : am_I → am_N → Prop) (zk2 : Int32 → Int32 → am_I → am_N → Prop) (n : Nat) : Int32 → Int32 → Int32 → am_I → am_N → Prop :=
  Nat.rec (motive := fun _ => Int32 → Int32 → Int32 → am_I → am_N → Prop) (fun _ _ _ _ _ => False) (fun _ zk => w_X12_spreads_p10_b post zk2 zk) n
theorem w_X12_spreads_p10_s (post : am_I → am_N → Prop) (zk2 : Int32 → Int32 → am_I → am_N → Prop) (n : Nat) (l1 : Int32) (l3 : Int32) (l4 : Int32) (M : am_I) (N : am_N) : w_X12_spreads_p10 post zk2 (n + 1) l1 l3 l4 M N = w_X12_spreads_p10_b post zk2 (w_X12_spreads_p10 post zk2 n) l1 l3 l4 M N := rfl
set_option maxRecDepth 10000 in
theorem k_X12_spreads_p10 {d : Nat} {dm : List am_C} (h3 : am_d3 dm) {post : am_I → am_N → Prop} {zk2 : Int32 → Int32 → am_I → am_N → Prop} (zhk2 : ∀ (l1 : Int32) (l3 : Int32) (M : am_I) (N : am_N), zk2 l1 l3 M N → jg (d + 2) mX12_spreads dm 2 [(0, .inr (.inr (3, 0, 0))), (1, .inl l1), (2, .inr (.inr (3, 0, 30))), (3, .inl l3)] [] M N (am_pv post)) : ∀ (n : Nat) (l1 : Int32) (l3 : Int32) (l4 : Int32) (M : am_I) (N : am_N), w_X12_spreads_p10 post zk2 n l1 l3 l4 M N → jg (d + 2) mX12_spreads dm 10 [(0, .inr (.inr (3, 0, 0))), (1, .inl l1), (2, .inr (.inr (3, 0, 30))), (3, .inl l3), (4, .inl l4)] [] M N (am_pv post) := by
  intro n
  induction n with
  | zero => intro l1 l3 l4 M N h; exact h.elim
  | succ n zih =>
    intro l1 l3 l4 M N h
    replace h : w_X12_spreads_p10_b post zk2 (w_X12_spreads_p10 post zk2 n) l1 l3 l4 M N := h
    refine j_iload 4 dX12_spreads_10 rfl ?_
    refine j_bipush (v := 64) dX12_spreads_12 (by decide) ?_
    refine j_icmp_ge (tgt := 110) dX12_spreads_14 (by decide) (fun hc => ?_) (fun hc => ?_)
    · replace h := h.1 hc
      refine j_iinc 3 dX12_spreads_110 rfl rfl (by decide) rfl ?_
      refine j_goto (tgt := 2) dX12_spreads_113 (by decide) ?_
      refine j_sub [1, 2, 3, 0] rfl ?_
      exact zhk2 _ _ _ _ h
    · replace h := h.2 hc
      refine j_aload_n 0 dX12_spreads_17 rfl ?_
      refine j_getR (b := (3, 0, 29)) dX12_spreads_18 fsRX12_100 (h3 0 (by decide)) rfl rfl ?_
      refine j_iload 4 dX12_spreads_21 rfl ?_
      obtain ⟨hq, h⟩ := h
      refine j_iald dX12_spreads_23 (h3 29 (by decide)) rfl hq ?_
      refine j_iconst (v := (-1)) dX12_spreads_24 (by decide) ?_
      refine j_icmp_ne (tgt := 104) dX12_spreads_25 (by decide) (fun hc => ?_) (fun hc => ?_)
      · replace h := h.1 hc
        refine j_iinc 4 dX12_spreads_104 rfl rfl (by decide) rfl ?_
        refine j_goto (tgt := 10) dX12_spreads_107 (by decide) ?_
        refine j_sub [1, 2, 3, 4, 0] rfl ?_
        exact zih _ _ _ _ _ h
      · replace h := h.2 hc
        refine j_aload_n 0 dX12_spreads_28 rfl ?_
        refine j_getR (b := (3, 0, 1)) dX12_spreads_29 fsRX12_7 (h3 0 (by decide)) rfl rfl ?_
        refine j_sipush (v := 192) dX12_spreads_32 (by decide) ?_
        refine j_iload 4 dX12_spreads_35 rfl ?_
        refine j_iadd dX12_spreads_37 ?_
        obtain ⟨hq, h⟩ := h
        refine j_iald dX12_spreads_38 (h3 1 (by decide)) rfl hq ?_
        refine j_if_eq (tgt := 104) dX12_spreads_39 (by decide) (fun hc => ?_) (fun hc => ?_)
        · replace h := h.1 hc
          refine j_iinc 4 dX12_spreads_104 rfl rfl (by decide) rfl ?_
          refine j_goto (tgt := 10) dX12_spreads_107 (by decide) ?_
          refine j_sub [1, 2, 3, 4, 0] rfl ?_
          exact zih _ _ _ _ _ h
        · replace h := h.2 hc
          refine j_aload_n 2 dX12_spreads_42 rfl ?_
          refine j_iload 4 dX12_spreads_43 rfl ?_
          obtain ⟨hq, h⟩ := h
          refine j_zald dX12_spreads_45 (h3 30 (by decide)) rfl hq ?_
          refine j_if_eq (tgt := 52) dX12_spreads_46 (by decide) (fun hc => ?_) (fun hc => ?_)
          · replace h := h.1 hc
            refine j_iconst (v := 0) dX12_spreads_52 (by decide) ?_
            refine j_istore dX12_spreads_53 (by decide) rfl ?_
            refine j_sub [1, 2, 3, 4, 5, 0] rfl ?_
            obtain ⟨n, h⟩ := h
            exact k_X12_spreads_p55 h3 zhk2 zih n _ _ _ _ _ _ h
          · replace h := h.2 hc
            refine j_goto (tgt := 104) dX12_spreads_49 (by decide) ?_
            refine j_iinc 4 dX12_spreads_104 rfl rfl (by decide) rfl ?_
            refine j_goto (tgt := 10) dX12_spreads_107 (by decide) ?_
            refine j_sub [1, 2, 3, 4, 0] rfl ?_
            exact zih _ _ _ _ _ h
def w_X12_spreads_p2_b (post : am_I → am_N → Prop) (zk2 : Int32 → Int32 → am_I → am_N → Prop) (l1 : Int32) (l3 : Int32) (M : am_I) (N : am_N) : Prop :=
  ((l1 < l3 → post M N) ∧ (¬ l1 < l3 → ∃ n, w_X12_spreads_p10 post zk2 n l1 l3 0 M N))
noncomputable def w_X12_spreads_p2 (post : am_I → am_N → Prop) (n : Nat) : Int32 → Int32 → am_I → am_N → Prop :=
  Nat.rec (motive := fun _ => Int32 → Int32 → am_I → am_N → Prop) (fun _ _ _ _ => False) (fun _ zk => w_X12_spreads_p2_b post zk) n
theorem w_X12_spreads_p2_s (post : am_I → am_N → Prop) (n : Nat) (l1 : Int32) (l3 : Int32) (M : am_I) (N : am_N) : w_X12_spreads_p2 post (n + 1) l1 l3 M N = w_X12_spreads_p2_b post (w_X12_spreads_p2 post n) l1 l3 M N := rfl
set_option maxRecDepth 10000 in
theorem k_X12_spreads_p2 {d : Nat} {dm : List am_C} (h3 : am_d3 dm) {post : am_I → am_N → Prop} : ∀ (n : Nat) (l1 : Int32) (l3 : Int32) (M : am_I) (N : am_N), w_X12_spreads_p2 post n l1 l3 M N → jg (d + 2) mX12_spreads dm 2 [(0, .inr (.inr (3, 0, 0))), (1, .inl l1), (2, .inr (.inr (3, 0, 30))), (3, .inl l3)] [] M N (am_pv post) := by
  intro n
  induction n with
  | zero => intro l1 l3 M N h; exact h.elim
  | succ n zih =>
    intro l1 l3 M N h
    replace h : w_X12_spreads_p2_b post (w_X12_spreads_p2 post n) l1 l3 M N := h
    refine j_iload_n 3 dX12_spreads_2 rfl ?_
    refine j_iload_n 1 dX12_spreads_3 rfl ?_
    refine j_icmp_gt (tgt := 116) dX12_spreads_4 (by decide) (fun hc => ?_) (fun hc => ?_)
    · replace h := h.1 hc
      exact j_vret dX12_spreads_116 rfl ⟨rfl, h⟩
    · replace h := h.2 hc
      refine j_iconst (v := 0) dX12_spreads_7 (by decide) ?_
      refine j_istore dX12_spreads_8 (by decide) rfl ?_
      refine j_sub [1, 2, 3, 4, 0] rfl ?_
      obtain ⟨n, h⟩ := h
      exact k_X12_spreads_p10 h3 zih n _ _ _ _ _ h
def w_X12_spreads (a1 : Int32) (M : am_I) (N : am_N) (post : am_I → am_N → Prop) : Prop :=
  ∃ n, w_X12_spreads_p2 post n a1 1 M N
set_option maxRecDepth 10000 in
theorem k_X12_spreads {d : Nat} {dm : List am_C} (h3 : am_d3 dm) {a1 : Int32} {M : am_I} {N : am_N} {post : am_I → am_N → Prop} (h : w_X12_spreads a1 M N post) : jg (d + 2) mX12_spreads dm 0 [(0, .inr (.inr (3, 0, 0))), (1, .inl a1), (2, .inr (.inr (3, 0, 30)))] [] M N (am_pv post) := by
  refine j_iconst (v := 1) dX12_spreads_0 (by decide) ?_
  refine j_istore_n dX12_spreads_1 (by decide) rfl ?_
  refine j_sub [1, 2, 3, 0] rfl ?_
  obtain ⟨n, h⟩ := h
  exact k_X12_spreads_p2 h3 n _ _ _ _ h
