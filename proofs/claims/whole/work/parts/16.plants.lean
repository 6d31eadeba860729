/-! ===== methods: 16.plants ===== -/
theorem dX6_begin_0 : decode mX6_begin.2.1 0 = .ok (.aload_n 0, 1) := by decide +kernel
theorem dX6_begin_1 : decode mX6_begin.2.1 1 = .ok (.getfield 21, 3) := by decide +kernel
theorem dX6_begin_4 : decode mX6_begin.2.1 4 = .ok (.iconst 0, 1) := by decide +kernel
theorem dX6_begin_5 : decode mX6_begin.2.1 5 = .ok (.invokestatic 38, 3) := by decide +kernel
theorem dX6_begin_8 : decode mX6_begin.2.1 8 = .ok (.aload_n 0, 1) := by decide +kernel
theorem dX6_begin_9 : decode mX6_begin.2.1 9 = .ok (.getfield 24, 3) := by decide +kernel
theorem dX6_begin_12 : decode mX6_begin.2.1 12 = .ok (.iconst 1, 1) := by decide +kernel
theorem dX6_begin_13 : decode mX6_begin.2.1 13 = .ok (.invokestatic 38, 3) := by decide +kernel
theorem dX6_begin_16 : decode mX6_begin.2.1 16 = .ok (.aload_n 0, 1) := by decide +kernel
theorem dX6_begin_17 : decode mX6_begin.2.1 17 = .ok (.lconst 0, 1) := by decide +kernel
theorem dX6_begin_18 : decode mX6_begin.2.1 18 = .ok (.putfield 44, 3) := by decide +kernel
theorem dX6_begin_21 : decode mX6_begin.2.1 21 = .ok (.aload_n 0, 1) := by decide +kernel
theorem dX6_begin_22 : decode mX6_begin.2.1 22 = .ok (.lconst 0, 1) := by decide +kernel
theorem dX6_begin_23 : decode mX6_begin.2.1 23 = .ok (.putfield 48, 3) := by decide +kernel
theorem dX6_begin_26 : decode mX6_begin.2.1 26 = .ok (.aload_n 0, 1) := by decide +kernel
theorem dX6_begin_27 : decode mX6_begin.2.1 27 = .ok (.iconst 0, 1) := by decide +kernel
theorem dX6_begin_28 : decode mX6_begin.2.1 28 = .ok (.putfield 51, 3) := by decide +kernel
theorem dX6_begin_31 : decode mX6_begin.2.1 31 = .ok (.return_, 1) := by decide +kernel
theorem dX6_standsOn_0 : decode mX6_standsOn.2.1 0 = .ok (.iload_n 1, 1) := by decide +kernel
theorem dX6_standsOn_1 : decode mX6_standsOn.2.1 1 = .ok (.invokestatic 55, 3) := by decide +kernel
theorem dX6_standsOn_4 : decode mX6_standsOn.2.1 4 = .ok (.ifCond .eq 21, 3) := by decide +kernel
theorem dX6_standsOn_7 : decode mX6_standsOn.2.1 7 = .ok (.aload_n 0, 1) := by decide +kernel
theorem dX6_standsOn_8 : decode mX6_standsOn.2.1 8 = .ok (.getfield 44, 3) := by decide +kernel
theorem dX6_standsOn_11 : decode mX6_standsOn.2.1 11 = .ok (.iload_n 1, 1) := by decide +kernel
theorem dX6_standsOn_12 : decode mX6_standsOn.2.1 12 = .ok (.invokestatic 59, 3) := by decide +kernel
theorem dX6_standsOn_15 : decode mX6_standsOn.2.1 15 = .ok (.land, 1) := by decide +kernel
theorem dX6_standsOn_16 : decode mX6_standsOn.2.1 16 = .ok (.lconst 0, 1) := by decide +kernel
theorem dX6_standsOn_17 : decode mX6_standsOn.2.1 17 = .ok (.lcmp, 1) := by decide +kernel
theorem dX6_standsOn_18 : decode mX6_standsOn.2.1 18 = .ok (.ifCond .eq 7, 3) := by decide +kernel
theorem dX6_standsOn_21 : decode mX6_standsOn.2.1 21 = .ok (.iconst 1, 1) := by decide +kernel
theorem dX6_standsOn_22 : decode mX6_standsOn.2.1 22 = .ok (.goto 4, 3) := by decide +kernel
theorem dX6_standsOn_25 : decode mX6_standsOn.2.1 25 = .ok (.iconst 0, 1) := by decide +kernel
theorem dX6_standsOn_26 : decode mX6_standsOn.2.1 26 = .ok (.ireturn, 1) := by decide +kernel
theorem dX6_isIll_0 : decode mX6_isIll.2.1 0 = .ok (.iload_n 1, 1) := by decide +kernel
theorem dX6_isIll_1 : decode mX6_isIll.2.1 1 = .ok (.invokestatic 55, 3) := by decide +kernel
theorem dX6_isIll_4 : decode mX6_isIll.2.1 4 = .ok (.ifCond .eq 21, 3) := by decide +kernel
theorem dX6_isIll_7 : decode mX6_isIll.2.1 7 = .ok (.aload_n 0, 1) := by decide +kernel
theorem dX6_isIll_8 : decode mX6_isIll.2.1 8 = .ok (.getfield 48, 3) := by decide +kernel
theorem dX6_isIll_11 : decode mX6_isIll.2.1 11 = .ok (.iload_n 1, 1) := by decide +kernel
theorem dX6_isIll_12 : decode mX6_isIll.2.1 12 = .ok (.invokestatic 59, 3) := by decide +kernel
theorem dX6_isIll_15 : decode mX6_isIll.2.1 15 = .ok (.land, 1) := by decide +kernel
theorem dX6_isIll_16 : decode mX6_isIll.2.1 16 = .ok (.lconst 0, 1) := by decide +kernel
theorem dX6_isIll_17 : decode mX6_isIll.2.1 17 = .ok (.lcmp, 1) := by decide +kernel
theorem dX6_isIll_18 : decode mX6_isIll.2.1 18 = .ok (.ifCond .eq 7, 3) := by decide +kernel
theorem dX6_isIll_21 : decode mX6_isIll.2.1 21 = .ok (.iconst 1, 1) := by decide +kernel
theorem dX6_isIll_22 : decode mX6_isIll.2.1 22 = .ok (.goto 4, 3) := by decide +kernel
theorem dX6_isIll_25 : decode mX6_isIll.2.1 25 = .ok (.iconst 0, 1) := by decide +kernel
theorem dX6_isIll_26 : decode mX6_isIll.2.1 26 = .ok (.ireturn, 1) := by decide +kernel
theorem dX6_sow_0 : decode mX6_sow.2.1 0 = .ok (.iload_n 1, 1) := by decide +kernel
theorem dX6_sow_1 : decode mX6_sow.2.1 1 = .ok (.invokestatic 55, 3) := by decide +kernel
theorem dX6_sow_4 : decode mX6_sow.2.1 4 = .ok (.ifCond .eq 11, 3) := by decide +kernel
theorem dX6_sow_7 : decode mX6_sow.2.1 7 = .ok (.aload_n 0, 1) := by decide +kernel
theorem dX6_sow_8 : decode mX6_sow.2.1 8 = .ok (.iload_n 1, 1) := by decide +kernel
theorem dX6_sow_9 : decode mX6_sow.2.1 9 = .ok (.invokevirtual 63, 3) := by decide +kernel
theorem dX6_sow_12 : decode mX6_sow.2.1 12 = .ok (.ifCond .eq 4, 3) := by decide +kernel
theorem dX6_sow_15 : decode mX6_sow.2.1 15 = .ok (.return_, 1) := by decide +kernel
theorem dX6_sow_16 : decode mX6_sow.2.1 16 = .ok (.aload_n 0, 1) := by decide +kernel
theorem dX6_sow_17 : decode mX6_sow.2.1 17 = .ok (.dup, 1) := by decide +kernel
theorem dX6_sow_18 : decode mX6_sow.2.1 18 = .ok (.getfield 44, 3) := by decide +kernel
theorem dX6_sow_21 : decode mX6_sow.2.1 21 = .ok (.iload_n 1, 1) := by decide +kernel
theorem dX6_sow_22 : decode mX6_sow.2.1 22 = .ok (.invokestatic 59, 3) := by decide +kernel
theorem dX6_sow_25 : decode mX6_sow.2.1 25 = .ok (.lor, 1) := by decide +kernel
theorem dX6_sow_26 : decode mX6_sow.2.1 26 = .ok (.putfield 44, 3) := by decide +kernel
theorem dX6_sow_29 : decode mX6_sow.2.1 29 = .ok (.aload_n 0, 1) := by decide +kernel
theorem dX6_sow_30 : decode mX6_sow.2.1 30 = .ok (.getfield 9, 3) := by decide +kernel
theorem dX6_sow_33 : decode mX6_sow.2.1 33 = .ok (.iload_n 1, 1) := by decide +kernel
theorem dX6_sow_34 : decode mX6_sow.2.1 34 = .ok (.iconst 0, 1) := by decide +kernel
theorem dX6_sow_35 : decode mX6_sow.2.1 35 = .ok (.iastore, 1) := by decide +kernel
theorem dX6_sow_36 : decode mX6_sow.2.1 36 = .ok (.aload_n 0, 1) := by decide +kernel
theorem dX6_sow_37 : decode mX6_sow.2.1 37 = .ok (.getfield 15, 3) := by decide +kernel
theorem dX6_sow_40 : decode mX6_sow.2.1 40 = .ok (.iload_n 1, 1) := by decide +kernel
theorem dX6_sow_41 : decode mX6_sow.2.1 41 = .ok (.iconst 0, 1) := by decide +kernel
theorem dX6_sow_42 : decode mX6_sow.2.1 42 = .ok (.iastore, 1) := by decide +kernel
theorem dX6_sow_43 : decode mX6_sow.2.1 43 = .ok (.aload_n 0, 1) := by decide +kernel
theorem dX6_sow_44 : decode mX6_sow.2.1 44 = .ok (.getfield 18, 3) := by decide +kernel
theorem dX6_sow_47 : decode mX6_sow.2.1 47 = .ok (.iload_n 1, 1) := by decide +kernel
theorem dX6_sow_48 : decode mX6_sow.2.1 48 = .ok (.iconst 0, 1) := by decide +kernel
theorem dX6_sow_49 : decode mX6_sow.2.1 49 = .ok (.iastore, 1) := by decide +kernel
theorem dX6_sow_50 : decode mX6_sow.2.1 50 = .ok (.aload_n 0, 1) := by decide +kernel
theorem dX6_sow_51 : decode mX6_sow.2.1 51 = .ok (.getfield 24, 3) := by decide +kernel
theorem dX6_sow_54 : decode mX6_sow.2.1 54 = .ok (.iload_n 1, 1) := by decide +kernel
theorem dX6_sow_55 : decode mX6_sow.2.1 55 = .ok (.iconst 0, 1) := by decide +kernel
theorem dX6_sow_56 : decode mX6_sow.2.1 56 = .ok (.iastore, 1) := by decide +kernel
theorem dX6_sow_57 : decode mX6_sow.2.1 57 = .ok (.lconst 0, 1) := by decide +kernel
theorem dX6_sow_58 : decode mX6_sow.2.1 58 = .ok (.lstore_n 3, 1) := by decide +kernel
theorem dX6_sow_59 : decode mX6_sow.2.1 59 = .ok (.iconst 0, 1) := by decide +kernel
theorem dX6_sow_60 : decode mX6_sow.2.1 60 = .ok (.istore 5, 2) := by decide +kernel
theorem dX6_sow_62 : decode mX6_sow.2.1 62 = .ok (.iload 5, 2) := by decide +kernel
theorem dX6_sow_64 : decode mX6_sow.2.1 64 = .ok (.iload_n 2, 1) := by decide +kernel
theorem dX6_sow_65 : decode mX6_sow.2.1 65 = .ok (.if_icmp .ge 26, 3) := by decide +kernel
theorem dX6_sow_68 : decode mX6_sow.2.1 68 = .ok (.lload_n 3, 1) := by decide +kernel
theorem dX6_sow_69 : decode mX6_sow.2.1 69 = .ok (.aload_n 0, 1) := by decide +kernel
theorem dX6_sow_70 : decode mX6_sow.2.1 70 = .ok (.getfield 34, 3) := by decide +kernel
theorem dX6_sow_73 : decode mX6_sow.2.1 73 = .ok (.getfield 66, 3) := by decide +kernel
theorem dX6_sow_76 : decode mX6_sow.2.1 76 = .ok (.iload 5, 2) := by decide +kernel
theorem dX6_sow_78 : decode mX6_sow.2.1 78 = .ok (.iconst 1, 1) := by decide +kernel
theorem dX6_sow_79 : decode mX6_sow.2.1 79 = .ok (.invokevirtual 72, 3) := by decide +kernel
theorem dX6_sow_82 : decode mX6_sow.2.1 82 = .ok (.i2l, 1) := by decide +kernel
theorem dX6_sow_83 : decode mX6_sow.2.1 83 = .ok (.ladd, 1) := by decide +kernel
theorem dX6_sow_84 : decode mX6_sow.2.1 84 = .ok (.lstore_n 3, 1) := by decide +kernel
theorem dX6_sow_85 : decode mX6_sow.2.1 85 = .ok (.iinc 5 1, 3) := by decide +kernel
theorem dX6_sow_88 : decode mX6_sow.2.1 88 = .ok (.goto (-26), 3) := by decide +kernel
theorem dX6_sow_91 : decode mX6_sow.2.1 91 = .ok (.iconst 0, 1) := by decide +kernel
theorem dX6_sow_92 : decode mX6_sow.2.1 92 = .ok (.istore 5, 2) := by decide +kernel
theorem dX6_sow_94 : decode mX6_sow.2.1 94 = .ok (.iload 5, 2) := by decide +kernel
theorem dX6_sow_96 : decode mX6_sow.2.1 96 = .ok (.iconst 5, 1) := by decide +kernel
theorem dX6_sow_97 : decode mX6_sow.2.1 97 = .ok (.if_icmp .ge 65, 3) := by decide +kernel
theorem dX6_sow_100 : decode mX6_sow.2.1 100 = .ok (.iload 5, 2) := by decide +kernel
theorem dX6_sow_102 : decode mX6_sow.2.1 102 = .ok (.iload_n 2, 1) := by decide +kernel
theorem dX6_sow_103 : decode mX6_sow.2.1 103 = .ok (.if_icmp .ge 20, 3) := by decide +kernel
theorem dX6_sow_106 : decode mX6_sow.2.1 106 = .ok (.aload_n 0, 1) := by decide +kernel
theorem dX6_sow_107 : decode mX6_sow.2.1 107 = .ok (.getfield 34, 3) := by decide +kernel
theorem dX6_sow_110 : decode mX6_sow.2.1 110 = .ok (.getfield 66, 3) := by decide +kernel
theorem dX6_sow_113 : decode mX6_sow.2.1 113 = .ok (.iload 5, 2) := by decide +kernel
theorem dX6_sow_115 : decode mX6_sow.2.1 115 = .ok (.iconst 1, 1) := by decide +kernel
theorem dX6_sow_116 : decode mX6_sow.2.1 116 = .ok (.invokevirtual 72, 3) := by decide +kernel
theorem dX6_sow_119 : decode mX6_sow.2.1 119 = .ok (.i2l, 1) := by decide +kernel
theorem dX6_sow_120 : decode mX6_sow.2.1 120 = .ok (.goto 4, 3) := by decide +kernel
theorem dX6_sow_123 : decode mX6_sow.2.1 123 = .ok (.lconst 0, 1) := by decide +kernel
theorem dX6_sow_124 : decode mX6_sow.2.1 124 = .ok (.lstore 6, 2) := by decide +kernel
theorem dX6_sow_126 : decode mX6_sow.2.1 126 = .ok (.aload_n 0, 1) := by decide +kernel
theorem dX6_sow_127 : decode mX6_sow.2.1 127 = .ok (.getfield 27, 3) := by decide +kernel
theorem dX6_sow_130 : decode mX6_sow.2.1 130 = .ok (.iload_n 1, 1) := by decide +kernel
theorem dX6_sow_131 : decode mX6_sow.2.1 131 = .ok (.iconst 5, 1) := by decide +kernel
theorem dX6_sow_132 : decode mX6_sow.2.1 132 = .ok (.imul, 1) := by decide +kernel
theorem dX6_sow_133 : decode mX6_sow.2.1 133 = .ok (.iload 5, 2) := by decide +kernel
theorem dX6_sow_135 : decode mX6_sow.2.1 135 = .ok (.iadd, 1) := by decide +kernel
theorem dX6_sow_136 : decode mX6_sow.2.1 136 = .ok (.lload_n 3, 1) := by decide +kernel
theorem dX6_sow_137 : decode mX6_sow.2.1 137 = .ok (.lconst 0, 1) := by decide +kernel
theorem dX6_sow_138 : decode mX6_sow.2.1 138 = .ok (.lcmp, 1) := by decide +kernel
theorem dX6_sow_139 : decode mX6_sow.2.1 139 = .ok (.ifCond .le 15, 3) := by decide +kernel
theorem dX6_sow_142 : decode mX6_sow.2.1 142 = .ok (.lload 6, 2) := by decide +kernel
theorem dX6_sow_144 : decode mX6_sow.2.1 144 = .ok (.ldc2_w 78, 3) := by decide +kernel
theorem dX6_sow_147 : decode mX6_sow.2.1 147 = .ok (.lmul, 1) := by decide +kernel
theorem dX6_sow_148 : decode mX6_sow.2.1 148 = .ok (.lload_n 3, 1) := by decide +kernel
theorem dX6_sow_149 : decode mX6_sow.2.1 149 = .ok (.ldiv, 1) := by decide +kernel
theorem dX6_sow_150 : decode mX6_sow.2.1 150 = .ok (.l2i, 1) := by decide +kernel
theorem dX6_sow_151 : decode mX6_sow.2.1 151 = .ok (.goto 4, 3) := by decide +kernel
theorem dX6_sow_154 : decode mX6_sow.2.1 154 = .ok (.iconst 0, 1) := by decide +kernel
theorem dX6_sow_155 : decode mX6_sow.2.1 155 = .ok (.iastore, 1) := by decide +kernel
theorem dX6_sow_156 : decode mX6_sow.2.1 156 = .ok (.iinc 5 1, 3) := by decide +kernel
theorem dX6_sow_159 : decode mX6_sow.2.1 159 = .ok (.goto (-65), 3) := by decide +kernel
theorem dX6_sow_162 : decode mX6_sow.2.1 162 = .ok (.return_, 1) := by decide +kernel
theorem dX6_expose_0 : decode mX6_expose.2.1 0 = .ok (.iload_n 1, 1) := by decide +kernel
theorem dX6_expose_1 : decode mX6_expose.2.1 1 = .ok (.invokestatic 55, 3) := by decide +kernel
theorem dX6_expose_4 : decode mX6_expose.2.1 4 = .ok (.ifCond .eq 10, 3) := by decide +kernel
theorem dX6_expose_7 : decode mX6_expose.2.1 7 = .ok (.aload_n 0, 1) := by decide +kernel
theorem dX6_expose_8 : decode mX6_expose.2.1 8 = .ok (.getfield 21, 3) := by decide +kernel
theorem dX6_expose_11 : decode mX6_expose.2.1 11 = .ok (.iload_n 1, 1) := by decide +kernel
theorem dX6_expose_12 : decode mX6_expose.2.1 12 = .ok (.iload_n 2, 1) := by decide +kernel
theorem dX6_expose_13 : decode mX6_expose.2.1 13 = .ok (.iastore, 1) := by decide +kernel
theorem dX6_expose_14 : decode mX6_expose.2.1 14 = .ok (.return_, 1) := by decide +kernel
theorem dX6_marksOn_0 : decode mX6_marksOn.2.1 0 = .ok (.iload_n 1, 1) := by decide +kernel
theorem dX6_marksOn_1 : decode mX6_marksOn.2.1 1 = .ok (.invokestatic 55, 3) := by decide +kernel
theorem dX6_marksOn_4 : decode mX6_marksOn.2.1 4 = .ok (.ifCond .eq 12, 3) := by decide +kernel
theorem dX6_marksOn_7 : decode mX6_marksOn.2.1 7 = .ok (.aload_n 0, 1) := by decide +kernel
theorem dX6_marksOn_8 : decode mX6_marksOn.2.1 8 = .ok (.getfield 21, 3) := by decide +kernel
theorem dX6_marksOn_11 : decode mX6_marksOn.2.1 11 = .ok (.iload_n 1, 1) := by decide +kernel
theorem dX6_marksOn_12 : decode mX6_marksOn.2.1 12 = .ok (.iaload, 1) := by decide +kernel
theorem dX6_marksOn_13 : decode mX6_marksOn.2.1 13 = .ok (.goto 4, 3) := by decide +kernel
theorem dX6_marksOn_16 : decode mX6_marksOn.2.1 16 = .ok (.iconst 0, 1) := by decide +kernel
theorem dX6_marksOn_17 : decode mX6_marksOn.2.1 17 = .ok (.ireturn, 1) := by decide +kernel
theorem dX6_weigh_0 : decode mX6_weigh.2.1 0 = .ok (.lload_n 2, 1) := by decide +kernel
theorem dX6_weigh_1 : decode mX6_weigh.2.1 1 = .ok (.lstore 5, 2) := by decide +kernel
theorem dX6_weigh_3 : decode mX6_weigh.2.1 3 = .ok (.iconst 0, 1) := by decide +kernel
theorem dX6_weigh_4 : decode mX6_weigh.2.1 4 = .ok (.istore 7, 2) := by decide +kernel
theorem dX6_weigh_6 : decode mX6_weigh.2.1 6 = .ok (.iload 7, 2) := by decide +kernel
theorem dX6_weigh_8 : decode mX6_weigh.2.1 8 = .ok (.iconst 4, 1) := by decide +kernel
theorem dX6_weigh_9 : decode mX6_weigh.2.1 9 = .ok (.if_icmp .ge 69, 3) := by decide +kernel
theorem dX6_weigh_12 : decode mX6_weigh.2.1 12 = .ok (.aload_n 0, 1) := by decide +kernel
theorem dX6_weigh_13 : decode mX6_weigh.2.1 13 = .ok (.getfield 34, 3) := by decide +kernel
theorem dX6_weigh_16 : decode mX6_weigh.2.1 16 = .ok (.getfield 66, 3) := by decide +kernel
theorem dX6_weigh_19 : decode mX6_weigh.2.1 19 = .ok (.iload_n 1, 1) := by decide +kernel
theorem dX6_weigh_20 : decode mX6_weigh.2.1 20 = .ok (.iconst 2, 1) := by decide +kernel
theorem dX6_weigh_21 : decode mX6_weigh.2.1 21 = .ok (.iload 7, 2) := by decide +kernel
theorem dX6_weigh_23 : decode mX6_weigh.2.1 23 = .ok (.iadd, 1) := by decide +kernel
theorem dX6_weigh_24 : decode mX6_weigh.2.1 24 = .ok (.invokevirtual 72, 3) := by decide +kernel
theorem dX6_weigh_27 : decode mX6_weigh.2.1 27 = .ok (.istore 8, 2) := by decide +kernel
theorem dX6_weigh_29 : decode mX6_weigh.2.1 29 = .ok (.iload 4, 2) := by decide +kernel
theorem dX6_weigh_31 : decode mX6_weigh.2.1 31 = .ok (.iload 7, 2) := by decide +kernel
theorem dX6_weigh_33 : decode mX6_weigh.2.1 33 = .ok (.ishr, 1) := by decide +kernel
theorem dX6_weigh_34 : decode mX6_weigh.2.1 34 = .ok (.iconst 1, 1) := by decide +kernel
theorem dX6_weigh_35 : decode mX6_weigh.2.1 35 = .ok (.iand, 1) := by decide +kernel
theorem dX6_weigh_36 : decode mX6_weigh.2.1 36 = .ok (.iconst 1, 1) := by decide +kernel
theorem dX6_weigh_37 : decode mX6_weigh.2.1 37 = .ok (.if_icmp .ne 7, 3) := by decide +kernel
theorem dX6_weigh_40 : decode mX6_weigh.2.1 40 = .ok (.iconst 1, 1) := by decide +kernel
theorem dX6_weigh_41 : decode mX6_weigh.2.1 41 = .ok (.goto 4, 3) := by decide +kernel
theorem dX6_weigh_44 : decode mX6_weigh.2.1 44 = .ok (.iconst 0, 1) := by decide +kernel
theorem dX6_weigh_45 : decode mX6_weigh.2.1 45 = .ok (.istore 9, 2) := by decide +kernel
theorem dX6_weigh_47 : decode mX6_weigh.2.1 47 = .ok (.lload 5, 2) := by decide +kernel
theorem dX6_weigh_49 : decode mX6_weigh.2.1 49 = .ok (.iload 9, 2) := by decide +kernel
theorem dX6_weigh_51 : decode mX6_weigh.2.1 51 = .ok (.ifCond .eq 8, 3) := by decide +kernel
theorem dX6_weigh_54 : decode mX6_weigh.2.1 54 = .ok (.iload 8, 2) := by decide +kernel
theorem dX6_weigh_56 : decode mX6_weigh.2.1 56 = .ok (.goto 8, 3) := by decide +kernel
theorem dX6_weigh_59 : decode mX6_weigh.2.1 59 = .ok (.bipush 100, 2) := by decide +kernel
theorem dX6_weigh_61 : decode mX6_weigh.2.1 61 = .ok (.iload 8, 2) := by decide +kernel
theorem dX6_weigh_63 : decode mX6_weigh.2.1 63 = .ok (.isub, 1) := by decide +kernel
theorem dX6_weigh_64 : decode mX6_weigh.2.1 64 = .ok (.i2l, 1) := by decide +kernel
theorem dX6_weigh_65 : decode mX6_weigh.2.1 65 = .ok (.lmul, 1) := by decide +kernel
theorem dX6_weigh_66 : decode mX6_weigh.2.1 66 = .ok (.ldc2_w 84, 3) := by decide +kernel
theorem dX6_weigh_69 : decode mX6_weigh.2.1 69 = .ok (.ldiv, 1) := by decide +kernel
theorem dX6_weigh_70 : decode mX6_weigh.2.1 70 = .ok (.lstore 5, 2) := by decide +kernel
theorem dX6_weigh_72 : decode mX6_weigh.2.1 72 = .ok (.iinc 7 1, 3) := by decide +kernel
theorem dX6_weigh_75 : decode mX6_weigh.2.1 75 = .ok (.goto (-69), 3) := by decide +kernel
theorem dX6_weigh_78 : decode mX6_weigh.2.1 78 = .ok (.lload 5, 2) := by decide +kernel
theorem dX6_weigh_80 : decode mX6_weigh.2.1 80 = .ok (.lreturn, 1) := by decide +kernel
theorem dX6_shareOf_0 : decode mX6_shareOf.2.1 0 = .ok (.iload_n 1, 1) := by decide +kernel
theorem dX6_shareOf_1 : decode mX6_shareOf.2.1 1 = .ok (.invokestatic 55, 3) := by decide +kernel
theorem dX6_shareOf_4 : decode mX6_shareOf.2.1 4 = .ok (.ifCond .eq 25, 3) := by decide +kernel
theorem dX6_shareOf_7 : decode mX6_shareOf.2.1 7 = .ok (.iload_n 2, 1) := by decide +kernel
theorem dX6_shareOf_8 : decode mX6_shareOf.2.1 8 = .ok (.iconst 0, 1) := by decide +kernel
theorem dX6_shareOf_9 : decode mX6_shareOf.2.1 9 = .ok (.iconst 4, 1) := by decide +kernel
theorem dX6_shareOf_10 : decode mX6_shareOf.2.1 10 = .ok (.invokestatic 86, 3) := by decide +kernel
theorem dX6_shareOf_13 : decode mX6_shareOf.2.1 13 = .ok (.ifCond .eq 16, 3) := by decide +kernel
theorem dX6_shareOf_16 : decode mX6_shareOf.2.1 16 = .ok (.aload_n 0, 1) := by decide +kernel
theorem dX6_shareOf_17 : decode mX6_shareOf.2.1 17 = .ok (.getfield 27, 3) := by decide +kernel
theorem dX6_shareOf_20 : decode mX6_shareOf.2.1 20 = .ok (.iload_n 1, 1) := by decide +kernel
theorem dX6_shareOf_21 : decode mX6_shareOf.2.1 21 = .ok (.iconst 5, 1) := by decide +kernel
theorem dX6_shareOf_22 : decode mX6_shareOf.2.1 22 = .ok (.imul, 1) := by decide +kernel
theorem dX6_shareOf_23 : decode mX6_shareOf.2.1 23 = .ok (.iload_n 2, 1) := by decide +kernel
theorem dX6_shareOf_24 : decode mX6_shareOf.2.1 24 = .ok (.iadd, 1) := by decide +kernel
theorem dX6_shareOf_25 : decode mX6_shareOf.2.1 25 = .ok (.iaload, 1) := by decide +kernel
theorem dX6_shareOf_26 : decode mX6_shareOf.2.1 26 = .ok (.goto 4, 3) := by decide +kernel
theorem dX6_shareOf_29 : decode mX6_shareOf.2.1 29 = .ok (.iconst 0, 1) := by decide +kernel
theorem dX6_shareOf_30 : decode mX6_shareOf.2.1 30 = .ok (.ireturn, 1) := by decide +kernel
theorem dX6_weedHundredths_0 : decode mX6_weedHundredths.2.1 0 = .ok (.lconst 0, 1) := by decide +kernel
theorem dX6_weedHundredths_1 : decode mX6_weedHundredths.2.1 1 = .ok (.lstore_n 2, 1) := by decide +kernel
theorem dX6_weedHundredths_2 : decode mX6_weedHundredths.2.1 2 = .ok (.iconst 0, 1) := by decide +kernel
theorem dX6_weedHundredths_3 : decode mX6_weedHundredths.2.1 3 = .ok (.istore 4, 2) := by decide +kernel
theorem dX6_weedHundredths_5 : decode mX6_weedHundredths.2.1 5 = .ok (.iload 4, 2) := by decide +kernel
theorem dX6_weedHundredths_7 : decode mX6_weedHundredths.2.1 7 = .ok (.iconst 5, 1) := by decide +kernel
theorem dX6_weedHundredths_8 : decode mX6_weedHundredths.2.1 8 = .ok (.if_icmp .ge 37, 3) := by decide +kernel
theorem dX6_weedHundredths_11 : decode mX6_weedHundredths.2.1 11 = .ok (.aload_n 0, 1) := by decide +kernel
theorem dX6_weedHundredths_12 : decode mX6_weedHundredths.2.1 12 = .ok (.getfield 34, 3) := by decide +kernel
theorem dX6_weedHundredths_15 : decode mX6_weedHundredths.2.1 15 = .ok (.getfield 66, 3) := by decide +kernel
theorem dX6_weedHundredths_18 : decode mX6_weedHundredths.2.1 18 = .ok (.iload 4, 2) := by decide +kernel
theorem dX6_weedHundredths_20 : decode mX6_weedHundredths.2.1 20 = .ok (.iconst 0, 1) := by decide +kernel
theorem dX6_weedHundredths_21 : decode mX6_weedHundredths.2.1 21 = .ok (.invokevirtual 72, 3) := by decide +kernel
theorem dX6_weedHundredths_24 : decode mX6_weedHundredths.2.1 24 = .ok (.iconst 1, 1) := by decide +kernel
theorem dX6_weedHundredths_25 : decode mX6_weedHundredths.2.1 25 = .ok (.if_icmp .ne 14, 3) := by decide +kernel
theorem dX6_weedHundredths_28 : decode mX6_weedHundredths.2.1 28 = .ok (.lload_n 2, 1) := by decide +kernel
theorem dX6_weedHundredths_29 : decode mX6_weedHundredths.2.1 29 = .ok (.aload_n 0, 1) := by decide +kernel
theorem dX6_weedHundredths_30 : decode mX6_weedHundredths.2.1 30 = .ok (.iload_n 1, 1) := by decide +kernel
theorem dX6_weedHundredths_31 : decode mX6_weedHundredths.2.1 31 = .ok (.iload 4, 2) := by decide +kernel
theorem dX6_weedHundredths_33 : decode mX6_weedHundredths.2.1 33 = .ok (.invokevirtual 90, 3) := by decide +kernel
theorem dX6_weedHundredths_36 : decode mX6_weedHundredths.2.1 36 = .ok (.i2l, 1) := by decide +kernel
theorem dX6_weedHundredths_37 : decode mX6_weedHundredths.2.1 37 = .ok (.ladd, 1) := by decide +kernel
theorem dX6_weedHundredths_38 : decode mX6_weedHundredths.2.1 38 = .ok (.lstore_n 2, 1) := by decide +kernel
theorem dX6_weedHundredths_39 : decode mX6_weedHundredths.2.1 39 = .ok (.iinc 4 1, 3) := by decide +kernel
theorem dX6_weedHundredths_42 : decode mX6_weedHundredths.2.1 42 = .ok (.goto (-37), 3) := by decide +kernel
theorem dX6_weedHundredths_45 : decode mX6_weedHundredths.2.1 45 = .ok (.lload_n 2, 1) := by decide +kernel
theorem dX6_weedHundredths_46 : decode mX6_weedHundredths.2.1 46 = .ok (.ldc2_w 93, 3) := by decide +kernel
theorem dX6_weedHundredths_49 : decode mX6_weedHundredths.2.1 49 = .ok (.ldiv, 1) := by decide +kernel
theorem dX6_weedHundredths_50 : decode mX6_weedHundredths.2.1 50 = .ok (.l2i, 1) := by decide +kernel
theorem dX6_weedHundredths_51 : decode mX6_weedHundredths.2.1 51 = .ok (.ireturn, 1) := by decide +kernel
theorem dX6_sicken_0 : decode mX6_sicken.2.1 0 = .ok (.aload_n 0, 1) := by decide +kernel
theorem dX6_sicken_1 : decode mX6_sicken.2.1 1 = .ok (.iload_n 1, 1) := by decide +kernel
theorem dX6_sicken_2 : decode mX6_sicken.2.1 2 = .ok (.invokevirtual 63, 3) := by decide +kernel
theorem dX6_sicken_5 : decode mX6_sicken.2.1 5 = .ok (.ifCond .ne 4, 3) := by decide +kernel
theorem dX6_sicken_8 : decode mX6_sicken.2.1 8 = .ok (.return_, 1) := by decide +kernel
theorem dX6_sicken_9 : decode mX6_sicken.2.1 9 = .ok (.aload_n 0, 1) := by decide +kernel
theorem dX6_sicken_10 : decode mX6_sicken.2.1 10 = .ok (.iload_n 2, 1) := by decide +kernel
theorem dX6_sicken_11 : decode mX6_sicken.2.1 11 = .ok (.ifCond .eq 15, 3) := by decide +kernel
theorem dX6_sicken_14 : decode mX6_sicken.2.1 14 = .ok (.aload_n 0, 1) := by decide +kernel
theorem dX6_sicken_15 : decode mX6_sicken.2.1 15 = .ok (.getfield 48, 3) := by decide +kernel
theorem dX6_sicken_18 : decode mX6_sicken.2.1 18 = .ok (.iload_n 1, 1) := by decide +kernel
theorem dX6_sicken_19 : decode mX6_sicken.2.1 19 = .ok (.invokestatic 59, 3) := by decide +kernel
theorem dX6_sicken_22 : decode mX6_sicken.2.1 22 = .ok (.lor, 1) := by decide +kernel
theorem dX6_sicken_23 : decode mX6_sicken.2.1 23 = .ok (.goto 16, 3) := by decide +kernel
theorem dX6_sicken_26 : decode mX6_sicken.2.1 26 = .ok (.aload_n 0, 1) := by decide +kernel
theorem dX6_sicken_27 : decode mX6_sicken.2.1 27 = .ok (.getfield 48, 3) := by decide +kernel
theorem dX6_sicken_30 : decode mX6_sicken.2.1 30 = .ok (.iload_n 1, 1) := by decide +kernel
theorem dX6_sicken_31 : decode mX6_sicken.2.1 31 = .ok (.invokestatic 59, 3) := by decide +kernel
theorem dX6_sicken_34 : decode mX6_sicken.2.1 34 = .ok (.ldc2_w 95, 3) := by decide +kernel
theorem dX6_sicken_37 : decode mX6_sicken.2.1 37 = .ok (.lxor, 1) := by decide +kernel
theorem dX6_sicken_38 : decode mX6_sicken.2.1 38 = .ok (.land, 1) := by decide +kernel
theorem dX6_sicken_39 : decode mX6_sicken.2.1 39 = .ok (.putfield 48, 3) := by decide +kernel
theorem dX6_sicken_42 : decode mX6_sicken.2.1 42 = .ok (.return_, 1) := by decide +kernel
theorem dX6_nourish_0 : decode mX6_nourish.2.1 0 = .ok (.aload_n 0, 1) := by decide +kernel
theorem dX6_nourish_1 : decode mX6_nourish.2.1 1 = .ok (.iload_n 1, 1) := by decide +kernel
theorem dX6_nourish_2 : decode mX6_nourish.2.1 2 = .ok (.invokevirtual 63, 3) := by decide +kernel
theorem dX6_nourish_5 : decode mX6_nourish.2.1 5 = .ok (.ifCond .eq 13, 3) := by decide +kernel
theorem dX6_nourish_8 : decode mX6_nourish.2.1 8 = .ok (.aload_n 0, 1) := by decide +kernel
theorem dX6_nourish_9 : decode mX6_nourish.2.1 9 = .ok (.getfield 18, 3) := by decide +kernel
theorem dX6_nourish_12 : decode mX6_nourish.2.1 12 = .ok (.iload_n 1, 1) := by decide +kernel
theorem dX6_nourish_13 : decode mX6_nourish.2.1 13 = .ok (.dup2, 1) := by decide +kernel
theorem dX6_nourish_14 : decode mX6_nourish.2.1 14 = .ok (.iaload, 1) := by decide +kernel
theorem dX6_nourish_15 : decode mX6_nourish.2.1 15 = .ok (.iload_n 2, 1) := by decide +kernel
theorem dX6_nourish_16 : decode mX6_nourish.2.1 16 = .ok (.iadd, 1) := by decide +kernel
theorem dX6_nourish_17 : decode mX6_nourish.2.1 17 = .ok (.iastore, 1) := by decide +kernel
theorem dX6_nourish_18 : decode mX6_nourish.2.1 18 = .ok (.return_, 1) := by decide +kernel
theorem dX6_remove_0 : decode mX6_remove.2.1 0 = .ok (.aload_n 0, 1) := by decide +kernel
theorem dX6_remove_1 : decode mX6_remove.2.1 1 = .ok (.iload_n 1, 1) := by decide +kernel
theorem dX6_remove_2 : decode mX6_remove.2.1 2 = .ok (.invokevirtual 63, 3) := by decide +kernel
theorem dX6_remove_5 : decode mX6_remove.2.1 5 = .ok (.ifCond .eq 44, 3) := by decide +kernel
theorem dX6_remove_8 : decode mX6_remove.2.1 8 = .ok (.aload_n 0, 1) := by decide +kernel
theorem dX6_remove_9 : decode mX6_remove.2.1 9 = .ok (.dup, 1) := by decide +kernel
theorem dX6_remove_10 : decode mX6_remove.2.1 10 = .ok (.getfield 44, 3) := by decide +kernel
theorem dX6_remove_13 : decode mX6_remove.2.1 13 = .ok (.iload_n 1, 1) := by decide +kernel
theorem dX6_remove_14 : decode mX6_remove.2.1 14 = .ok (.invokestatic 59, 3) := by decide +kernel
theorem dX6_remove_17 : decode mX6_remove.2.1 17 = .ok (.ldc2_w 95, 3) := by decide +kernel
theorem dX6_remove_20 : decode mX6_remove.2.1 20 = .ok (.lxor, 1) := by decide +kernel
theorem dX6_remove_21 : decode mX6_remove.2.1 21 = .ok (.land, 1) := by decide +kernel
theorem dX6_remove_22 : decode mX6_remove.2.1 22 = .ok (.putfield 44, 3) := by decide +kernel
theorem dX6_remove_25 : decode mX6_remove.2.1 25 = .ok (.aload_n 0, 1) := by decide +kernel
theorem dX6_remove_26 : decode mX6_remove.2.1 26 = .ok (.dup, 1) := by decide +kernel
theorem dX6_remove_27 : decode mX6_remove.2.1 27 = .ok (.getfield 48, 3) := by decide +kernel
theorem dX6_remove_30 : decode mX6_remove.2.1 30 = .ok (.iload_n 1, 1) := by decide +kernel
theorem dX6_remove_31 : decode mX6_remove.2.1 31 = .ok (.invokestatic 59, 3) := by decide +kernel
theorem dX6_remove_34 : decode mX6_remove.2.1 34 = .ok (.ldc2_w 95, 3) := by decide +kernel
theorem dX6_remove_37 : decode mX6_remove.2.1 37 = .ok (.lxor, 1) := by decide +kernel
theorem dX6_remove_38 : decode mX6_remove.2.1 38 = .ok (.land, 1) := by decide +kernel
theorem dX6_remove_39 : decode mX6_remove.2.1 39 = .ok (.putfield 48, 3) := by decide +kernel
theorem dX6_remove_42 : decode mX6_remove.2.1 42 = .ok (.aload_n 0, 1) := by decide +kernel
theorem dX6_remove_43 : decode mX6_remove.2.1 43 = .ok (.getfield 24, 3) := by decide +kernel
theorem dX6_remove_46 : decode mX6_remove.2.1 46 = .ok (.iload_n 1, 1) := by decide +kernel
theorem dX6_remove_47 : decode mX6_remove.2.1 47 = .ok (.iload_n 2, 1) := by decide +kernel
theorem dX6_remove_48 : decode mX6_remove.2.1 48 = .ok (.iastore, 1) := by decide +kernel
theorem dX6_remove_49 : decode mX6_remove.2.1 49 = .ok (.return_, 1) := by decide +kernel
theorem dX6_drown_0 : decode mX6_drown.2.1 0 = .ok (.iconst 0, 1) := by decide +kernel
theorem dX6_drown_1 : decode mX6_drown.2.1 1 = .ok (.istore_n 2, 1) := by decide +kernel
theorem dX6_drown_2 : decode mX6_drown.2.1 2 = .ok (.iload_n 2, 1) := by decide +kernel
theorem dX6_drown_3 : decode mX6_drown.2.1 3 = .ok (.bipush 64, 2) := by decide +kernel
theorem dX6_drown_5 : decode mX6_drown.2.1 5 = .ok (.if_icmp .ge 27, 3) := by decide +kernel
theorem dX6_drown_8 : decode mX6_drown.2.1 8 = .ok (.aload_n 1, 1) := by decide +kernel
theorem dX6_drown_9 : decode mX6_drown.2.1 9 = .ok (.getfield 97, 3) := by decide +kernel
theorem dX6_drown_12 : decode mX6_drown.2.1 12 = .ok (.iload_n 2, 1) := by decide +kernel
theorem dX6_drown_13 : decode mX6_drown.2.1 13 = .ok (.iaload, 1) := by decide +kernel
theorem dX6_drown_14 : decode mX6_drown.2.1 14 = .ok (.sipush 600, 3) := by decide +kernel
theorem dX6_drown_17 : decode mX6_drown.2.1 17 = .ok (.if_icmp .le 9, 3) := by decide +kernel
theorem dX6_drown_20 : decode mX6_drown.2.1 20 = .ok (.aload_n 0, 1) := by decide +kernel
theorem dX6_drown_21 : decode mX6_drown.2.1 21 = .ok (.iload_n 2, 1) := by decide +kernel
theorem dX6_drown_22 : decode mX6_drown.2.1 22 = .ok (.iconst 4, 1) := by decide +kernel
theorem dX6_drown_23 : decode mX6_drown.2.1 23 = .ok (.invokevirtual 102, 3) := by decide +kernel
theorem dX6_drown_26 : decode mX6_drown.2.1 26 = .ok (.iinc 2 1, 3) := by decide +kernel
theorem dX6_drown_29 : decode mX6_drown.2.1 29 = .ok (.goto (-27), 3) := by decide +kernel
theorem dX6_drown_32 : decode mX6_drown.2.1 32 = .ok (.return_, 1) := by decide +kernel
theorem dX6_drawLot_0 : decode mX6_drawLot.2.1 0 = .ok (.aload_n 0, 1) := by decide +kernel
theorem dX6_drawLot_1 : decode mX6_drawLot.2.1 1 = .ok (.getfield 34, 3) := by decide +kernel
theorem dX6_drawLot_4 : decode mX6_drawLot.2.1 4 = .ok (.getfield 113, 3) := by decide +kernel
theorem dX6_drawLot_7 : decode mX6_drawLot.2.1 7 = .ok (.aload_n 0, 1) := by decide +kernel
theorem dX6_drawLot_8 : decode mX6_drawLot.2.1 8 = .ok (.getfield 51, 3) := by decide +kernel
theorem dX6_drawLot_11 : decode mX6_drawLot.2.1 11 = .ok (.iconst 0, 1) := by decide +kernel
theorem dX6_drawLot_12 : decode mX6_drawLot.2.1 12 = .ok (.invokevirtual 72, 3) := by decide +kernel
theorem dX6_drawLot_15 : decode mX6_drawLot.2.1 15 = .ok (.istore_n 2, 1) := by decide +kernel
theorem dX6_drawLot_16 : decode mX6_drawLot.2.1 16 = .ok (.aload_n 0, 1) := by decide +kernel
theorem dX6_drawLot_17 : decode mX6_drawLot.2.1 17 = .ok (.aload_n 0, 1) := by decide +kernel
theorem dX6_drawLot_18 : decode mX6_drawLot.2.1 18 = .ok (.getfield 51, 3) := by decide +kernel
theorem dX6_drawLot_21 : decode mX6_drawLot.2.1 21 = .ok (.iconst 1, 1) := by decide +kernel
theorem dX6_drawLot_22 : decode mX6_drawLot.2.1 22 = .ok (.iadd, 1) := by decide +kernel
theorem dX6_drawLot_23 : decode mX6_drawLot.2.1 23 = .ok (.iload_n 1, 1) := by decide +kernel
theorem dX6_drawLot_24 : decode mX6_drawLot.2.1 24 = .ok (.if_icmp .ge 12, 3) := by decide +kernel
theorem dX6_drawLot_27 : decode mX6_drawLot.2.1 27 = .ok (.aload_n 0, 1) := by decide +kernel
theorem dX6_drawLot_28 : decode mX6_drawLot.2.1 28 = .ok (.getfield 51, 3) := by decide +kernel
theorem dX6_drawLot_31 : decode mX6_drawLot.2.1 31 = .ok (.iconst 1, 1) := by decide +kernel
theorem dX6_drawLot_32 : decode mX6_drawLot.2.1 32 = .ok (.iadd, 1) := by decide +kernel
theorem dX6_drawLot_33 : decode mX6_drawLot.2.1 33 = .ok (.goto 4, 3) := by decide +kernel
theorem dX6_drawLot_36 : decode mX6_drawLot.2.1 36 = .ok (.iconst 0, 1) := by decide +kernel
theorem dX6_drawLot_37 : decode mX6_drawLot.2.1 37 = .ok (.putfield 51, 3) := by decide +kernel
theorem dX6_drawLot_40 : decode mX6_drawLot.2.1 40 = .ok (.iload_n 2, 1) := by decide +kernel
theorem dX6_drawLot_41 : decode mX6_drawLot.2.1 41 = .ok (.ireturn, 1) := by decide +kernel
theorem dX6_grow_0 : decode mX6_grow.2.1 0 = .ok (.iconst 0, 1) := by decide +kernel
theorem dX6_grow_1 : decode mX6_grow.2.1 1 = .ok (.istore_n 2, 1) := by decide +kernel
theorem dX6_grow_2 : decode mX6_grow.2.1 2 = .ok (.iload_n 2, 1) := by decide +kernel
theorem dX6_grow_3 : decode mX6_grow.2.1 3 = .ok (.bipush 64, 2) := by decide +kernel
theorem dX6_grow_5 : decode mX6_grow.2.1 5 = .ok (.if_icmp .ge 48, 3) := by decide +kernel
theorem dX6_grow_8 : decode mX6_grow.2.1 8 = .ok (.aload_n 0, 1) := by decide +kernel
theorem dX6_grow_9 : decode mX6_grow.2.1 9 = .ok (.iload_n 2, 1) := by decide +kernel
theorem dX6_grow_10 : decode mX6_grow.2.1 10 = .ok (.invokevirtual 63, 3) := by decide +kernel
theorem dX6_grow_13 : decode mX6_grow.2.1 13 = .ok (.ifCond .eq 34, 3) := by decide +kernel
theorem dX6_grow_16 : decode mX6_grow.2.1 16 = .ok (.aload_n 0, 1) := by decide +kernel
theorem dX6_grow_17 : decode mX6_grow.2.1 17 = .ok (.getfield 9, 3) := by decide +kernel
theorem dX6_grow_20 : decode mX6_grow.2.1 20 = .ok (.iload_n 2, 1) := by decide +kernel
theorem dX6_grow_21 : decode mX6_grow.2.1 21 = .ok (.dup2, 1) := by decide +kernel
theorem dX6_grow_22 : decode mX6_grow.2.1 22 = .ok (.iaload, 1) := by decide +kernel
theorem dX6_grow_23 : decode mX6_grow.2.1 23 = .ok (.aload_n 1, 1) := by decide +kernel
theorem dX6_grow_24 : decode mX6_grow.2.1 24 = .ok (.getfield 97, 3) := by decide +kernel
theorem dX6_grow_27 : decode mX6_grow.2.1 27 = .ok (.iload_n 2, 1) := by decide +kernel
theorem dX6_grow_28 : decode mX6_grow.2.1 28 = .ok (.iaload, 1) := by decide +kernel
theorem dX6_grow_29 : decode mX6_grow.2.1 29 = .ok (.bipush 50, 2) := by decide +kernel
theorem dX6_grow_31 : decode mX6_grow.2.1 31 = .ok (.sipush 300, 3) := by decide +kernel
theorem dX6_grow_34 : decode mX6_grow.2.1 34 = .ok (.invokestatic 86, 3) := by decide +kernel
theorem dX6_grow_37 : decode mX6_grow.2.1 37 = .ok (.ifCond .eq 7, 3) := by decide +kernel
theorem dX6_grow_40 : decode mX6_grow.2.1 40 = .ok (.iconst 2, 1) := by decide +kernel
theorem dX6_grow_41 : decode mX6_grow.2.1 41 = .ok (.goto 4, 3) := by decide +kernel
theorem dX6_grow_44 : decode mX6_grow.2.1 44 = .ok (.iconst 1, 1) := by decide +kernel
theorem dX6_grow_45 : decode mX6_grow.2.1 45 = .ok (.iadd, 1) := by decide +kernel
theorem dX6_grow_46 : decode mX6_grow.2.1 46 = .ok (.iastore, 1) := by decide +kernel
theorem dX6_grow_47 : decode mX6_grow.2.1 47 = .ok (.iinc 2 1, 3) := by decide +kernel
theorem dX6_grow_50 : decode mX6_grow.2.1 50 = .ok (.goto (-48), 3) := by decide +kernel
theorem dX6_grow_53 : decode mX6_grow.2.1 53 = .ok (.return_, 1) := by decide +kernel
theorem dX6_allGot_0 : decode mX6_allGot.2.1 0 = .ok (.iconst 0, 1) := by decide +kernel
theorem dX6_allGot_1 : decode mX6_allGot.2.1 1 = .ok (.istore_n 1, 1) := by decide +kernel
theorem dX6_allGot_2 : decode mX6_allGot.2.1 2 = .ok (.iconst 0, 1) := by decide +kernel
theorem dX6_allGot_3 : decode mX6_allGot.2.1 3 = .ok (.istore_n 2, 1) := by decide +kernel
theorem dX6_allGot_4 : decode mX6_allGot.2.1 4 = .ok (.iload_n 2, 1) := by decide +kernel
theorem dX6_allGot_5 : decode mX6_allGot.2.1 5 = .ok (.bipush 64, 2) := by decide +kernel
theorem dX6_allGot_7 : decode mX6_allGot.2.1 7 = .ok (.if_icmp .ge 26, 3) := by decide +kernel
theorem dX6_allGot_10 : decode mX6_allGot.2.1 10 = .ok (.aload_n 0, 1) := by decide +kernel
theorem dX6_allGot_11 : decode mX6_allGot.2.1 11 = .ok (.iload_n 2, 1) := by decide +kernel
theorem dX6_allGot_12 : decode mX6_allGot.2.1 12 = .ok (.invokevirtual 63, 3) := by decide +kernel
theorem dX6_allGot_15 : decode mX6_allGot.2.1 15 = .ok (.ifCond .eq 12, 3) := by decide +kernel
theorem dX6_allGot_18 : decode mX6_allGot.2.1 18 = .ok (.iload_n 1, 1) := by decide +kernel
theorem dX6_allGot_19 : decode mX6_allGot.2.1 19 = .ok (.aload_n 0, 1) := by decide +kernel
theorem dX6_allGot_20 : decode mX6_allGot.2.1 20 = .ok (.getfield 18, 3) := by decide +kernel
theorem dX6_allGot_23 : decode mX6_allGot.2.1 23 = .ok (.iload_n 2, 1) := by decide +kernel
theorem dX6_allGot_24 : decode mX6_allGot.2.1 24 = .ok (.iaload, 1) := by decide +kernel
theorem dX6_allGot_25 : decode mX6_allGot.2.1 25 = .ok (.iadd, 1) := by decide +kernel
theorem dX6_allGot_26 : decode mX6_allGot.2.1 26 = .ok (.istore_n 1, 1) := by decide +kernel
theorem dX6_allGot_27 : decode mX6_allGot.2.1 27 = .ok (.iinc 2 1, 3) := by decide +kernel
theorem dX6_allGot_30 : decode mX6_allGot.2.1 30 = .ok (.goto (-26), 3) := by decide +kernel
theorem dX6_allGot_33 : decode mX6_allGot.2.1 33 = .ok (.iload_n 1, 1) := by decide +kernel
theorem dX6_allGot_34 : decode mX6_allGot.2.1 34 = .ok (.ireturn, 1) := by decide +kernel
theorem dX6_see_0 : decode mX6_see.2.1 0 = .ok (.aload_n 0, 1) := by decide +kernel
theorem dX6_see_1 : decode mX6_see.2.1 1 = .ok (.iload_n 1, 1) := by decide +kernel
theorem dX6_see_2 : decode mX6_see.2.1 2 = .ok (.invokevirtual 63, 3) := by decide +kernel
theorem dX6_see_5 : decode mX6_see.2.1 5 = .ok (.ifCond .ne 4, 3) := by decide +kernel
theorem dX6_see_8 : decode mX6_see.2.1 8 = .ok (.return_, 1) := by decide +kernel
theorem dX6_see_9 : decode mX6_see.2.1 9 = .ok (.aload_n 0, 1) := by decide +kernel
theorem dX6_see_10 : decode mX6_see.2.1 10 = .ok (.getfield 15, 3) := by decide +kernel
theorem dX6_see_13 : decode mX6_see.2.1 13 = .ok (.iload_n 1, 1) := by decide +kernel
theorem dX6_see_14 : decode mX6_see.2.1 14 = .ok (.dup2, 1) := by decide +kernel
theorem dX6_see_15 : decode mX6_see.2.1 15 = .ok (.iaload, 1) := by decide +kernel
theorem dX6_see_16 : decode mX6_see.2.1 16 = .ok (.iconst 1, 1) := by decide +kernel
theorem dX6_see_17 : decode mX6_see.2.1 17 = .ok (.iadd, 1) := by decide +kernel
theorem dX6_see_18 : decode mX6_see.2.1 18 = .ok (.iastore, 1) := by decide +kernel
theorem dX6_see_19 : decode mX6_see.2.1 19 = .ok (.lconst 0, 1) := by decide +kernel
theorem dX6_see_20 : decode mX6_see.2.1 20 = .ok (.lstore_n 3, 1) := by decide +kernel
theorem dX6_see_21 : decode mX6_see.2.1 21 = .ok (.iconst 0, 1) := by decide +kernel
theorem dX6_see_22 : decode mX6_see.2.1 22 = .ok (.istore 5, 2) := by decide +kernel
theorem dX6_see_24 : decode mX6_see.2.1 24 = .ok (.iload 5, 2) := by decide +kernel
theorem dX6_see_26 : decode mX6_see.2.1 26 = .ok (.iconst 5, 1) := by decide +kernel
theorem dX6_see_27 : decode mX6_see.2.1 27 = .ok (.if_icmp .ge 45, 3) := by decide +kernel
theorem dX6_see_30 : decode mX6_see.2.1 30 = .ok (.aload_n 0, 1) := by decide +kernel
theorem dX6_see_31 : decode mX6_see.2.1 31 = .ok (.getfield 30, 3) := by decide +kernel
theorem dX6_see_34 : decode mX6_see.2.1 34 = .ok (.iload 5, 2) := by decide +kernel
theorem dX6_see_36 : decode mX6_see.2.1 36 = .ok (.aload_n 0, 1) := by decide +kernel
theorem dX6_see_37 : decode mX6_see.2.1 37 = .ok (.iload 5, 2) := by decide +kernel
theorem dX6_see_39 : decode mX6_see.2.1 39 = .ok (.aload_n 0, 1) := by decide +kernel
theorem dX6_see_40 : decode mX6_see.2.1 40 = .ok (.getfield 27, 3) := by decide +kernel
theorem dX6_see_43 : decode mX6_see.2.1 43 = .ok (.iload_n 1, 1) := by decide +kernel
theorem dX6_see_44 : decode mX6_see.2.1 44 = .ok (.iconst 5, 1) := by decide +kernel
theorem dX6_see_45 : decode mX6_see.2.1 45 = .ok (.imul, 1) := by decide +kernel
theorem dX6_see_46 : decode mX6_see.2.1 46 = .ok (.iload 5, 2) := by decide +kernel
theorem dX6_see_48 : decode mX6_see.2.1 48 = .ok (.iadd, 1) := by decide +kernel
theorem dX6_see_49 : decode mX6_see.2.1 49 = .ok (.iaload, 1) := by decide +kernel
theorem dX6_see_50 : decode mX6_see.2.1 50 = .ok (.i2l, 1) := by decide +kernel
theorem dX6_see_51 : decode mX6_see.2.1 51 = .ok (.iload_n 2, 1) := by decide +kernel
theorem dX6_see_52 : decode mX6_see.2.1 52 = .ok (.invokevirtual 80, 3) := by decide +kernel
theorem dX6_see_55 : decode mX6_see.2.1 55 = .ok (.lastore, 1) := by decide +kernel
theorem dX6_see_56 : decode mX6_see.2.1 56 = .ok (.lload_n 3, 1) := by decide +kernel
theorem dX6_see_57 : decode mX6_see.2.1 57 = .ok (.aload_n 0, 1) := by decide +kernel
theorem dX6_see_58 : decode mX6_see.2.1 58 = .ok (.getfield 30, 3) := by decide +kernel
theorem dX6_see_61 : decode mX6_see.2.1 61 = .ok (.iload 5, 2) := by decide +kernel
theorem dX6_see_63 : decode mX6_see.2.1 63 = .ok (.laload, 1) := by decide +kernel
theorem dX6_see_64 : decode mX6_see.2.1 64 = .ok (.ladd, 1) := by decide +kernel
theorem dX6_see_65 : decode mX6_see.2.1 65 = .ok (.lstore_n 3, 1) := by decide +kernel
theorem dX6_see_66 : decode mX6_see.2.1 66 = .ok (.iinc 5 1, 3) := by decide +kernel
theorem dX6_see_69 : decode mX6_see.2.1 69 = .ok (.goto (-45), 3) := by decide +kernel
theorem dX6_see_72 : decode mX6_see.2.1 72 = .ok (.lload_n 3, 1) := by decide +kernel
theorem dX6_see_73 : decode mX6_see.2.1 73 = .ok (.lconst 0, 1) := by decide +kernel
theorem dX6_see_74 : decode mX6_see.2.1 74 = .ok (.lcmp, 1) := by decide +kernel
theorem dX6_see_75 : decode mX6_see.2.1 75 = .ok (.ifCond .gt 4, 3) := by decide +kernel
theorem dX6_see_78 : decode mX6_see.2.1 78 = .ok (.return_, 1) := by decide +kernel
theorem dX6_see_79 : decode mX6_see.2.1 79 = .ok (.iconst 0, 1) := by decide +kernel
theorem dX6_see_80 : decode mX6_see.2.1 80 = .ok (.istore 5, 2) := by decide +kernel
theorem dX6_see_82 : decode mX6_see.2.1 82 = .ok (.iload 5, 2) := by decide +kernel
theorem dX6_see_84 : decode mX6_see.2.1 84 = .ok (.iconst 5, 1) := by decide +kernel
theorem dX6_see_85 : decode mX6_see.2.1 85 = .ok (.if_icmp .ge 34, 3) := by decide +kernel
theorem dX6_see_88 : decode mX6_see.2.1 88 = .ok (.aload_n 0, 1) := by decide +kernel
theorem dX6_see_89 : decode mX6_see.2.1 89 = .ok (.getfield 27, 3) := by decide +kernel
theorem dX6_see_92 : decode mX6_see.2.1 92 = .ok (.iload_n 1, 1) := by decide +kernel
theorem dX6_see_93 : decode mX6_see.2.1 93 = .ok (.iconst 5, 1) := by decide +kernel
theorem dX6_see_94 : decode mX6_see.2.1 94 = .ok (.imul, 1) := by decide +kernel
theorem dX6_see_95 : decode mX6_see.2.1 95 = .ok (.iload 5, 2) := by decide +kernel
theorem dX6_see_97 : decode mX6_see.2.1 97 = .ok (.iadd, 1) := by decide +kernel
theorem dX6_see_98 : decode mX6_see.2.1 98 = .ok (.aload_n 0, 1) := by decide +kernel
theorem dX6_see_99 : decode mX6_see.2.1 99 = .ok (.getfield 30, 3) := by decide +kernel
theorem dX6_see_102 : decode mX6_see.2.1 102 = .ok (.iload 5, 2) := by decide +kernel
theorem dX6_see_104 : decode mX6_see.2.1 104 = .ok (.laload, 1) := by decide +kernel
theorem dX6_see_105 : decode mX6_see.2.1 105 = .ok (.ldc2_w 78, 3) := by decide +kernel
theorem dX6_see_108 : decode mX6_see.2.1 108 = .ok (.lmul, 1) := by decide +kernel
theorem dX6_see_109 : decode mX6_see.2.1 109 = .ok (.lload_n 3, 1) := by decide +kernel
theorem dX6_see_110 : decode mX6_see.2.1 110 = .ok (.ldiv, 1) := by decide +kernel
theorem dX6_see_111 : decode mX6_see.2.1 111 = .ok (.l2i, 1) := by decide +kernel
theorem dX6_see_112 : decode mX6_see.2.1 112 = .ok (.iastore, 1) := by decide +kernel
theorem dX6_see_113 : decode mX6_see.2.1 113 = .ok (.iinc 5 1, 3) := by decide +kernel
theorem dX6_see_116 : decode mX6_see.2.1 116 = .ok (.goto (-34), 3) := by decide +kernel
theorem dX6_see_119 : decode mX6_see.2.1 119 = .ok (.return_, 1) := by decide +kernel
theorem dX6_spread_0 : decode mX6_spread.2.1 0 = .ok (.aload_n 0, 1) := by decide +kernel
theorem dX6_spread_1 : decode mX6_spread.2.1 1 = .ok (.getfield 48, 3) := by decide +kernel
theorem dX6_spread_4 : decode mX6_spread.2.1 4 = .ok (.lstore_n 3, 1) := by decide +kernel
theorem dX6_spread_5 : decode mX6_spread.2.1 5 = .ok (.iload_n 2, 1) := by decide +kernel
theorem dX6_spread_6 : decode mX6_spread.2.1 6 = .ok (.iconst 1, 1) := by decide +kernel
theorem dX6_spread_7 : decode mX6_spread.2.1 7 = .ok (.if_icmp .lt 9, 3) := by decide +kernel
theorem dX6_spread_10 : decode mX6_spread.2.1 10 = .ok (.lload_n 3, 1) := by decide +kernel
theorem dX6_spread_11 : decode mX6_spread.2.1 11 = .ok (.lconst 0, 1) := by decide +kernel
theorem dX6_spread_12 : decode mX6_spread.2.1 12 = .ok (.lcmp, 1) := by decide +kernel
theorem dX6_spread_13 : decode mX6_spread.2.1 13 = .ok (.ifCond .ne 4, 3) := by decide +kernel
theorem dX6_spread_16 : decode mX6_spread.2.1 16 = .ok (.return_, 1) := by decide +kernel
theorem dX6_spread_17 : decode mX6_spread.2.1 17 = .ok (.iconst 0, 1) := by decide +kernel
theorem dX6_spread_18 : decode mX6_spread.2.1 18 = .ok (.istore 5, 2) := by decide +kernel
theorem dX6_spread_20 : decode mX6_spread.2.1 20 = .ok (.iload 5, 2) := by decide +kernel
theorem dX6_spread_22 : decode mX6_spread.2.1 22 = .ok (.bipush 64, 2) := by decide +kernel
theorem dX6_spread_24 : decode mX6_spread.2.1 24 = .ok (.if_icmp .ge 97, 3) := by decide +kernel
theorem dX6_spread_27 : decode mX6_spread.2.1 27 = .ok (.aload_n 0, 1) := by decide +kernel
theorem dX6_spread_28 : decode mX6_spread.2.1 28 = .ok (.getfield 44, 3) := by decide +kernel
theorem dX6_spread_31 : decode mX6_spread.2.1 31 = .ok (.lload_n 3, 1) := by decide +kernel
theorem dX6_spread_32 : decode mX6_spread.2.1 32 = .ok (.ldc2_w 95, 3) := by decide +kernel
theorem dX6_spread_35 : decode mX6_spread.2.1 35 = .ok (.lxor, 1) := by decide +kernel
theorem dX6_spread_36 : decode mX6_spread.2.1 36 = .ok (.land, 1) := by decide +kernel
theorem dX6_spread_37 : decode mX6_spread.2.1 37 = .ok (.iload 5, 2) := by decide +kernel
theorem dX6_spread_39 : decode mX6_spread.2.1 39 = .ok (.invokestatic 59, 3) := by decide +kernel
theorem dX6_spread_42 : decode mX6_spread.2.1 42 = .ok (.land, 1) := by decide +kernel
theorem dX6_spread_43 : decode mX6_spread.2.1 43 = .ok (.lconst 0, 1) := by decide +kernel
theorem dX6_spread_44 : decode mX6_spread.2.1 44 = .ok (.lcmp, 1) := by decide +kernel
theorem dX6_spread_45 : decode mX6_spread.2.1 45 = .ok (.ifCond .ne 6, 3) := by decide +kernel
theorem dX6_spread_48 : decode mX6_spread.2.1 48 = .ok (.goto 67, 3) := by decide +kernel
theorem dX6_spread_51 : decode mX6_spread.2.1 51 = .ok (.iconst 0, 1) := by decide +kernel
theorem dX6_spread_52 : decode mX6_spread.2.1 52 = .ok (.istore 6, 2) := by decide +kernel
theorem dX6_spread_54 : decode mX6_spread.2.1 54 = .ok (.iload 6, 2) := by decide +kernel
theorem dX6_spread_56 : decode mX6_spread.2.1 56 = .ok (.iconst 4, 1) := by decide +kernel
theorem dX6_spread_57 : decode mX6_spread.2.1 57 = .ok (.if_icmp .ge 58, 3) := by decide +kernel
theorem dX6_spread_60 : decode mX6_spread.2.1 60 = .ok (.iload 5, 2) := by decide +kernel
theorem dX6_spread_62 : decode mX6_spread.2.1 62 = .ok (.iload 6, 2) := by decide +kernel
theorem dX6_spread_64 : decode mX6_spread.2.1 64 = .ok (.invokestatic 106, 3) := by decide +kernel
theorem dX6_spread_67 : decode mX6_spread.2.1 67 = .ok (.istore 7, 2) := by decide +kernel
theorem dX6_spread_69 : decode mX6_spread.2.1 69 = .ok (.iload 7, 2) := by decide +kernel
theorem dX6_spread_71 : decode mX6_spread.2.1 71 = .ok (.ifCond .lt 38, 3) := by decide +kernel
theorem dX6_spread_74 : decode mX6_spread.2.1 74 = .ok (.lload_n 3, 1) := by decide +kernel
theorem dX6_spread_75 : decode mX6_spread.2.1 75 = .ok (.iload 7, 2) := by decide +kernel
theorem dX6_spread_77 : decode mX6_spread.2.1 77 = .ok (.invokestatic 59, 3) := by decide +kernel
theorem dX6_spread_80 : decode mX6_spread.2.1 80 = .ok (.land, 1) := by decide +kernel
theorem dX6_spread_81 : decode mX6_spread.2.1 81 = .ok (.lconst 0, 1) := by decide +kernel
theorem dX6_spread_82 : decode mX6_spread.2.1 82 = .ok (.lcmp, 1) := by decide +kernel
theorem dX6_spread_83 : decode mX6_spread.2.1 83 = .ok (.ifCond .eq 26, 3) := by decide +kernel
theorem dX6_spread_86 : decode mX6_spread.2.1 86 = .ok (.aload_n 0, 1) := by decide +kernel
theorem dX6_spread_87 : decode mX6_spread.2.1 87 = .ok (.iload_n 2, 1) := by decide +kernel
theorem dX6_spread_88 : decode mX6_spread.2.1 88 = .ok (.invokevirtual 109, 3) := by decide +kernel
theorem dX6_spread_91 : decode mX6_spread.2.1 91 = .ok (.iload_n 1, 1) := by decide +kernel
theorem dX6_spread_92 : decode mX6_spread.2.1 92 = .ok (.if_icmp .ge 17, 3) := by decide +kernel
theorem dX6_spread_95 : decode mX6_spread.2.1 95 = .ok (.aload_n 0, 1) := by decide +kernel
theorem dX6_spread_96 : decode mX6_spread.2.1 96 = .ok (.dup, 1) := by decide +kernel
theorem dX6_spread_97 : decode mX6_spread.2.1 97 = .ok (.getfield 48, 3) := by decide +kernel
theorem dX6_spread_100 : decode mX6_spread.2.1 100 = .ok (.iload 5, 2) := by decide +kernel
theorem dX6_spread_102 : decode mX6_spread.2.1 102 = .ok (.invokestatic 59, 3) := by decide +kernel
theorem dX6_spread_105 : decode mX6_spread.2.1 105 = .ok (.lor, 1) := by decide +kernel
theorem dX6_spread_106 : decode mX6_spread.2.1 106 = .ok (.putfield 48, 3) := by decide +kernel
theorem dX6_spread_109 : decode mX6_spread.2.1 109 = .ok (.iinc 6 1, 3) := by decide +kernel
theorem dX6_spread_112 : decode mX6_spread.2.1 112 = .ok (.goto (-58), 3) := by decide +kernel
theorem dX6_spread_115 : decode mX6_spread.2.1 115 = .ok (.iinc 5 1, 3) := by decide +kernel
theorem dX6_spread_118 : decode mX6_spread.2.1 118 = .ok (.goto (-98), 3) := by decide +kernel
theorem dX6_spread_121 : decode mX6_spread.2.1 121 = .ok (.return_, 1) := by decide +kernel
def w_X6_begin (b : Nat) (M : am_I) (N : am_N) (post : am_I → am_N → Prop) : Prop :=
  post (am_u (am_fill (am_fill M (1, b, 10) 64 0) (1, b, 11) 64 1) (1, b, 6) 10 0) (am_ul (am_ul N (1, b, 6) 8 0) (1, b, 6) 9 0)
set_option maxRecDepth 10000 in
theorem k_X6_begin {d : Nat} {dm : List am_C} {b : Nat} (h1b : am_d1 dm b) {M : am_I} {N : am_N} {post : am_I → am_N → Prop} (h : w_X6_begin b M N post) : jg (d + 2) mX6_begin dm 0 [(0, .inr (.inr (1, b, 6)))] [] M N (am_pv post) := by
  refine j_aload_n 0 dX6_begin_0 rfl ?_
  refine j_getR (b := (1, b, 10)) dX6_begin_1 fsRX6_21 (h1b 6 (by decide)) rfl rfl ?_
  refine j_iconst (v := 0) dX6_begin_4 (by decide) ?_
  refine j_invS (As := [.inr (.inr (1, b, 10)), .inl 0]) dX6_begin_5 msRX6_38 mbJ7_fill_53178 rfl rfl (Nat.le_of_ble_eq_true rfl) (Nat.le_of_ble_eq_true rfl) (by omega) (k_J7_fill_53178 (d := d) (h1b 10 (by decide)) rfl (by decide)) ?_
  rintro _ _ _ ⟨rfl, rfl, rfl⟩
  refine j_aload_n 0 dX6_begin_8 rfl ?_
  refine j_getR (b := (1, b, 11)) dX6_begin_9 fsRX6_24 (h1b 6 (by decide)) rfl rfl ?_
  refine j_iconst (v := 1) dX6_begin_12 (by decide) ?_
  refine j_invS (As := [.inr (.inr (1, b, 11)), .inl 1]) dX6_begin_13 msRX6_38 mbJ7_fill_53178 rfl rfl (Nat.le_of_ble_eq_true rfl) (Nat.le_of_ble_eq_true rfl) (by omega) (k_J7_fill_53178 (d := d) (h1b 11 (by decide)) rfl (by decide)) ?_
  rintro _ _ _ ⟨rfl, rfl, rfl⟩
  refine j_aload_n 0 dX6_begin_16 rfl ?_
  refine j_lconst (v := 0) dX6_begin_17 (by decide) ?_
  refine j_putL dX6_begin_18 fwRX6_44 (h1b 6 (by decide)) rfl ?_
  refine j_aload_n 0 dX6_begin_21 rfl ?_
  refine j_lconst (v := 0) dX6_begin_22 (by decide) ?_
  refine j_putL dX6_begin_23 fwRX6_48 (h1b 6 (by decide)) rfl ?_
  refine j_aload_n 0 dX6_begin_26 rfl ?_
  refine j_iconst (v := 0) dX6_begin_27 (by decide) ?_
  refine j_putI dX6_begin_28 fwRX6_51 (h1b 6 (by decide)) rfl ?_
  exact j_vret dX6_begin_31 rfl ⟨rfl, h⟩
def w_X6_standsOn (b : Nat) (a1 : Int32) (M : am_I) (N : am_N) (post : Int32 → am_I → am_N → Prop) : Prop :=
  w_X11_isCell a1 M N (fun zr1 zM2 zN3 => ((zr1 = 0 → post 0 zM2 zN3) ∧ (¬ zr1 = 0 → w_X11_bit a1 zM2 zN3 (fun zr4 zM5 zN6 => ((((zN3 (1, b, 6) 8) &&& zr4) = 0 → post 0 zM5 zN6) ∧ (¬ ((zN3 (1, b, 6) 8) &&& zr4) = 0 → post 1 zM5 zN6))))))
set_option maxRecDepth 10000 in
theorem k_X6_standsOn {d : Nat} {dm : List am_C} {b : Nat} (h1b : am_d1 dm b) {a1 : Int32} {M : am_I} {N : am_N} {post : Int32 → am_I → am_N → Prop} (h : w_X6_standsOn b a1 M N post) : jg (d + 2) mX6_standsOn dm 0 [(0, .inr (.inr (1, b, 6))), (1, .inl a1)] [] M N (am_pi post) := by
  refine j_iload_n 1 dX6_standsOn_0 rfl ?_
  refine j_invS (As := [.inl a1]) dX6_standsOn_1 msRX6_55 mbX11_isCell rfl rfl (Nat.le_of_ble_eq_true rfl) (Nat.le_of_ble_eq_true rfl) (by omega) (k_X11_isCell (d := d + 0)  h) ?_
  rintro _ zM2 zN3 ⟨zr1, rfl, h⟩
  refine j_if_eq (tgt := 25) dX6_standsOn_4 (by decide) (fun hc => ?_) (fun hc => ?_)
  · replace h := h.1 hc
    refine j_iconst (v := 0) dX6_standsOn_25 (by decide) ?_
    exact j_zret dX6_standsOn_26 rfl (Or.inl rfl) ⟨_, rfl, h⟩
  · replace h := h.2 hc
    refine j_aload_n 0 dX6_standsOn_7 rfl ?_
    refine j_getL dX6_standsOn_8 fsRX6_44 (h1b 6 (by decide)) rfl ?_
    refine j_iload_n 1 dX6_standsOn_11 rfl ?_
    refine j_invS (As := [.inl a1]) dX6_standsOn_12 msRX6_59 mbX11_bit rfl rfl (Nat.le_of_ble_eq_true rfl) (Nat.le_of_ble_eq_true rfl) (by omega) (k_X11_bit (d := d + 0)  h) ?_
    rintro _ zM5 zN6 ⟨zr4, rfl, h⟩
    refine j_land dX6_standsOn_15 ?_
    refine j_lconst (v := 0) dX6_standsOn_16 (by decide) ?_
    refine j_lcmp_eq (tgt := 25) dX6_standsOn_17 dX6_standsOn_18 (by decide) (fun hc => ?_) (fun hc => ?_)
    · replace h := h.1 hc
      refine j_iconst (v := 0) dX6_standsOn_25 (by decide) ?_
      exact j_zret dX6_standsOn_26 rfl (Or.inl rfl) ⟨_, rfl, h⟩
    · replace h := h.2 hc
      refine j_iconst (v := 1) dX6_standsOn_21 (by decide) ?_
      refine j_goto (tgt := 26) dX6_standsOn_22 (by decide) ?_
      exact j_zret dX6_standsOn_26 rfl (Or.inr rfl) ⟨_, rfl, h⟩
def w_X6_isIll (b : Nat) (a1 : Int32) (M : am_I) (N : am_N) (post : Int32 → am_I → am_N → Prop) : Prop :=
  w_X11_isCell a1 M N (fun zr1 zM2 zN3 => ((zr1 = 0 → post 0 zM2 zN3) ∧ (¬ zr1 = 0 → w_X11_bit a1 zM2 zN3 (fun zr4 zM5 zN6 => ((((zN3 (1, b, 6) 9) &&& zr4) = 0 → post 0 zM5 zN6) ∧ (¬ ((zN3 (1, b, 6) 9) &&& zr4) = 0 → post 1 zM5 zN6))))))
set_option maxRecDepth 10000 in
theorem k_X6_isIll {d : Nat} {dm : List am_C} {b : Nat} (h1b : am_d1 dm b) {a1 : Int32} {M : am_I} {N : am_N} {post : Int32 → am_I → am_N → Prop} (h : w_X6_isIll b a1 M N post) : jg (d + 2) mX6_isIll dm 0 [(0, .inr (.inr (1, b, 6))), (1, .inl a1)] [] M N (am_pi post) := by
  refine j_iload_n 1 dX6_isIll_0 rfl ?_
  refine j_invS (As := [.inl a1]) dX6_isIll_1 msRX6_55 mbX11_isCell rfl rfl (Nat.le_of_ble_eq_true rfl) (Nat.le_of_ble_eq_true rfl) (by omega) (k_X11_isCell (d := d + 0)  h) ?_
  rintro _ zM2 zN3 ⟨zr1, rfl, h⟩
  refine j_if_eq (tgt := 25) dX6_isIll_4 (by decide) (fun hc => ?_) (fun hc => ?_)
  · replace h := h.1 hc
    refine j_iconst (v := 0) dX6_isIll_25 (by decide) ?_
    exact j_zret dX6_isIll_26 rfl (Or.inl rfl) ⟨_, rfl, h⟩
  · replace h := h.2 hc
    refine j_aload_n 0 dX6_isIll_7 rfl ?_
    refine j_getL dX6_isIll_8 fsRX6_48 (h1b 6 (by decide)) rfl ?_
    refine j_iload_n 1 dX6_isIll_11 rfl ?_
    refine j_invS (As := [.inl a1]) dX6_isIll_12 msRX6_59 mbX11_bit rfl rfl (Nat.le_of_ble_eq_true rfl) (Nat.le_of_ble_eq_true rfl) (by omega) (k_X11_bit (d := d + 0)  h) ?_
    rintro _ zM5 zN6 ⟨zr4, rfl, h⟩
    refine j_land dX6_isIll_15 ?_
    refine j_lconst (v := 0) dX6_isIll_16 (by decide) ?_
    refine j_lcmp_eq (tgt := 25) dX6_isIll_17 dX6_isIll_18 (by decide) (fun hc => ?_) (fun hc => ?_)
    · replace h := h.1 hc
      refine j_iconst (v := 0) dX6_isIll_25 (by decide) ?_
      exact j_zret dX6_isIll_26 rfl (Or.inl rfl) ⟨_, rfl, h⟩
    · replace h := h.2 hc
      refine j_iconst (v := 1) dX6_isIll_21 (by decide) ?_
      refine j_goto (tgt := 26) dX6_isIll_22 (by decide) ?_
      exact j_zret dX6_isIll_26 rfl (Or.inr rfl) ⟨_, rfl, h⟩
def w_X6_sow_p124 (b : Nat) (post : am_I → am_N → Prop) (zk94 : Int32 → Int32 → Int64 → Int32 → am_I → am_N → Prop) (l1 : Int32) (l2 : Int32) (l3 : Int64) (l5 : Int32) (s0 : Int64) (M : am_I) (N : am_N) : Prop :=
  ((l3 ≤ 0 → vp_in ((l1 * 5) + l5) 320 ∧ zk94 l1 l2 l3 (l5 + 1) (am_u M (1, b, 12) ((l1 * 5) + l5).toNatClampNeg 0) N) ∧ (¬ l3 ≤ 0 → ¬ l3 = 0 ∧ vp_in ((l1 * 5) + l5) 320 ∧ zk94 l1 l2 l3 (l5 + 1) (am_u M (1, b, 12) ((l1 * 5) + l5).toNatClampNeg (((s0 * 1000000000) / l3).toInt32)) N))
set_option maxRecDepth 10000 in
theorem k_X6_sow_p124 {d : Nat} {dm : List am_C} {b : Nat} (h0 : am_d0 dm) (h1b : am_d1 dm b) (h2 : am_d2 dm) {post : am_I → am_N → Prop} {zk94 : Int32 → Int32 → Int64 → Int32 → am_I → am_N → Prop} (zhk94 : ∀ (l1 : Int32) (l2 : Int32) (l3 : Int64) (l5 : Int32) (M : am_I) (N : am_N), zk94 l1 l2 l3 l5 M N → jg (d + 3) mX6_sow dm 94 [(0, .inr (.inr (1, b, 6))), (1, .inl l1), (2, .inl l2), (3, .inr (.inl l3)), (5, .inl l5)] [] M N (am_pv post)) (l1 : Int32) (l2 : Int32) (l3 : Int64) (l5 : Int32) (s0 : Int64) (M : am_I) (N : am_N) (h : w_X6_sow_p124 b post zk94 l1 l2 l3 l5 s0 M N) : jg (d + 3) mX6_sow dm 124 [(0, .inr (.inr (1, b, 6))), (1, .inl l1), (2, .inl l2), (3, .inr (.inl l3)), (5, .inl l5)] [.inr (.inl s0)] M N (am_pv post) := by
  refine j_lstore dX6_sow_124 (by decide) rfl ?_
  refine j_aload_n 1 dX6_sow_126 rfl ?_
  refine j_getR (b := (1, b, 12)) dX6_sow_127 fsRX6_27 (h1b 6 (by decide)) rfl rfl ?_
  refine j_iload_n 2 dX6_sow_130 rfl ?_
  refine j_iconst (v := 5) dX6_sow_131 (by decide) ?_
  refine j_imul dX6_sow_132 ?_
  refine j_iload 5 dX6_sow_133 rfl ?_
  refine j_iadd dX6_sow_135 ?_
  refine j_lload_n 4 dX6_sow_136 rfl ?_
  refine j_lconst (v := 0) dX6_sow_137 (by decide) ?_
  refine j_lcmp_le (tgt := 154) dX6_sow_138 dX6_sow_139 (by decide) (fun hc => ?_) (fun hc => ?_)
  · replace h := h.1 hc
    refine j_iconst (v := 0) dX6_sow_154 (by decide) ?_
    obtain ⟨hq, h⟩ := h
    refine j_iast dX6_sow_155 (h1b 12 (by decide)) rfl hq ?_
    refine j_iinc 5 dX6_sow_156 rfl rfl (by decide) rfl ?_
    refine j_goto (tgt := 94) dX6_sow_159 (by decide) ?_
    refine j_sub [2, 3, 4, 5, 0] rfl ?_
    exact zhk94 _ _ _ _ _ _ h
  · replace h := h.2 hc
    refine j_lload 0 dX6_sow_142 rfl ?_
    refine j_ldc2 (v := 1000000000) dX6_sow_144 cw_615 ?_
    refine j_lmul dX6_sow_147 ?_
    refine j_lload_n 4 dX6_sow_148 rfl ?_
    obtain ⟨hq, h⟩ := h
    refine j_ldiv dX6_sow_149 hq ?_
    refine j_l2i dX6_sow_150 ?_
    refine j_goto (tgt := 155) dX6_sow_151 (by decide) ?_
    obtain ⟨hq, h⟩ := h
    refine j_iast dX6_sow_155 (h1b 12 (by decide)) rfl hq ?_
    refine j_iinc 5 dX6_sow_156 rfl rfl (by decide) rfl ?_
    refine j_goto (tgt := 94) dX6_sow_159 (by decide) ?_
    refine j_sub [2, 3, 4, 5, 0] rfl ?_
    exact zhk94 _ _ _ _ _ _ h
def w_X6_sow_p94_b (b : Nat) (post : am_I → am_N → Prop) (zk94 : Int32 → Int32 → Int64 → Int32 → am_I → am_N → Prop) (l1 : Int32) (l2 : Int32) (l3 : Int64) (l5 : Int32) (M : am_I) (N : am_N) : Prop :=
  ((5 ≤ l5 → post M N) ∧ (¬ 5 ≤ l5 → ((l2 ≤ l5 → w_X6_sow_p124 b post zk94 l1 l2 l3 l5 0 M N) ∧ (¬ l2 ≤ l5 → w_X9_at 4 l5 1 M N (fun zr1 zM2 zN3 => w_X6_sow_p124 b post zk94 l1 l2 l3 l5 zr1.toInt64 zM2 zN3)))))
noncomputable def w_X6_sow_p94 (b : Nat) (post : am_I → am_N → Prop) (n : Nat) : Int32 → Int32 → Int64 → Int32 → am_I → am_N → Prop :=
  Nat.rec (motive := fun _ => Int32 → Int32 → Int64 → Int32 → am_I → am_N → Prop) (fun _ _ _ _ _ _ => False) (fun _ zk => w_X6_sow_p94_b b post zk) n
theorem w_X6_sow_p94_s (b : Nat) (post : am_I → am_N → Prop) (n : Nat) (l1 : Int32) (l2 : Int32) (l3 : Int64) (l5 : Int32) (M : am_I) (N : am_N) : w_X6_sow_p94 b post (n + 1) l1 l2 l3 l5 M N = w_X6_sow_p94_b b post (w_X6_sow_p94 b post n) l1 l2 l3 l5 M N := rfl
set_option maxRecDepth 10000 in
theorem k_X6_sow_p94 {d : Nat} {dm : List am_C} {b : Nat} (h0 : am_d0 dm) (h1b : am_d1 dm b) (h2 : am_d2 dm) {post : am_I → am_N → Prop} : ∀ (n : Nat) (l1 : Int32) (l2 : Int32) (l3 : Int64) (l5 : Int32) (M : am_I) (N : am_N), w_X6_sow_p94 b post n l1 l2 l3 l5 M N → jg (d + 3) mX6_sow dm 94 [(0, .inr (.inr (1, b, 6))), (1, .inl l1), (2, .inl l2), (3, .inr (.inl l3)), (5, .inl l5)] [] M N (am_pv post) := by
  intro n
  induction n with
  | zero => intro l1 l2 l3 l5 M N h; exact h.elim
  | succ n zih =>
    intro l1 l2 l3 l5 M N h
    replace h : w_X6_sow_p94_b b post (w_X6_sow_p94 b post n) l1 l2 l3 l5 M N := h
    refine j_iload 4 dX6_sow_94 rfl ?_
    refine j_iconst (v := 5) dX6_sow_96 (by decide) ?_
    refine j_icmp_ge (tgt := 162) dX6_sow_97 (by decide) (fun hc => ?_) (fun hc => ?_)
    · replace h := h.1 hc
      exact j_vret dX6_sow_162 rfl ⟨rfl, h⟩
    · replace h := h.2 hc
      refine j_iload 4 dX6_sow_100 rfl ?_
      refine j_iload_n 2 dX6_sow_102 rfl ?_
      refine j_icmp_ge (tgt := 123) dX6_sow_103 (by decide) (fun hc => ?_) (fun hc => ?_)
      · replace h := h.1 hc
        refine j_lconst (v := 0) dX6_sow_123 (by decide) ?_
        refine j_sub [0, 1, 2, 3, 4] rfl ?_
        exact k_X6_sow_p124 h0 h1b h2 zih _ _ _ _ _ _ _ h
      · replace h := h.2 hc
        refine j_aload_n 0 dX6_sow_106 rfl ?_
        refine j_getR (b := (0, 0, 1)) dX6_sow_107 fsRX6_34 (h1b 6 (by decide)) rfl rfl ?_
        refine j_getR (b := (2, 4, 0)) dX6_sow_110 fsRX6_66 (h0 1 (by decide)) rfl rfl ?_
        refine j_iload 4 dX6_sow_113 rfl ?_
        refine j_iconst (v := 1) dX6_sow_115 (by decide) ?_
        refine j_invV (As := [.inl l5, .inl 1]) dX6_sow_116 msRX6_72 mbX9_at rfl rfl (Nat.le_of_ble_eq_true rfl) (Nat.le_of_ble_eq_true rfl) (by omega) (h2 4 (by decide) 0 (by decide)) rfl rfl (k_X9_at (d := d + 1) h2 (by decide) h) ?_
        rintro _ zM2 zN3 ⟨zr1, rfl, h⟩
        refine j_i2l dX6_sow_119 ?_
        refine j_goto (tgt := 124) dX6_sow_120 (by decide) ?_
        refine j_sub [0, 1, 2, 3, 4] rfl ?_
        exact k_X6_sow_p124 h0 h1b h2 zih _ _ _ _ _ _ _ h
def w_X6_sow_p62_b (b : Nat) (post : am_I → am_N → Prop) (zk62 : Int32 → Int32 → Int64 → Int32 → am_I → am_N → Prop) (l1 : Int32) (l2 : Int32) (l3 : Int64) (l5 : Int32) (M : am_I) (N : am_N) : Prop :=
  ((l2 ≤ l5 → ∃ n, w_X6_sow_p94 b post n l1 l2 l3 0 M N) ∧ (¬ l2 ≤ l5 → w_X9_at 4 l5 1 M N (fun zr1 zM2 zN3 => ∀ zv4 : Int64, zv4 = l3 + zr1.toInt64 → zk62 l1 l2 zv4 (l5 + 1) zM2 zN3)))
noncomputable def w_X6_sow_p62 (b : Nat) (post : am_I → am_N → Prop) (n : Nat) : Int32 → Int32 → Int64 → Int32 → am_I → am_N → Prop :=
  Nat.rec (motive := fun _ => Int32 → Int32 → Int64 → Int32 → am_I → am_N → Prop) (fun _ _ _ _ _ _ => False) (fun _ zk => w_X6_sow_p62_b b post zk) n
theorem w_X6_sow_p62_s (b : Nat) (post : am_I → am_N → Prop) (n : Nat) (l1 : Int32) (l2 : Int32) (l3 : Int64) (l5 : Int32) (M : am_I) (N : am_N) : w_X6_sow_p62 b post (n + 1) l1 l2 l3 l5 M N = w_X6_sow_p62_b b post (w_X6_sow_p62 b post n) l1 l2 l3 l5 M N := rfl
set_option maxRecDepth 10000 in
theorem k_X6_sow_p62 {d : Nat} {dm : List am_C} {b : Nat} (h0 : am_d0 dm) (h1b : am_d1 dm b) (h2 : am_d2 dm) {post : am_I → am_N → Prop} : ∀ (n : Nat) (l1 : Int32) (l2 : Int32) (l3 : Int64) (l5 : Int32) (M : am_I) (N : am_N), w_X6_sow_p62 b post n l1 l2 l3 l5 M N → jg (d + 3) mX6_sow dm 62 [(0, .inr (.inr (1, b, 6))), (1, .inl l1), (2, .inl l2), (3, .inr (.inl l3)), (5, .inl l5)] [] M N (am_pv post) := by
  intro n
  induction n with
  | zero => intro l1 l2 l3 l5 M N h; exact h.elim
  | succ n zih =>
    intro l1 l2 l3 l5 M N h
    replace h : w_X6_sow_p62_b b post (w_X6_sow_p62 b post n) l1 l2 l3 l5 M N := h
    refine j_iload 4 dX6_sow_62 rfl ?_
    refine j_iload_n 2 dX6_sow_64 rfl ?_
    refine j_icmp_ge (tgt := 91) dX6_sow_65 (by decide) (fun hc => ?_) (fun hc => ?_)
    · replace h := h.1 hc
      refine j_iconst (v := 0) dX6_sow_91 (by decide) ?_
      refine j_istore dX6_sow_92 (by decide) rfl ?_
      refine j_sub [1, 2, 3, 4, 0] rfl ?_
      obtain ⟨n, h⟩ := h
      exact k_X6_sow_p94 h0 h1b h2 n _ _ _ _ _ _ h
    · replace h := h.2 hc
      refine j_lload_n 3 dX6_sow_68 rfl ?_
      refine j_aload_n 0 dX6_sow_69 rfl ?_
      refine j_getR (b := (0, 0, 1)) dX6_sow_70 fsRX6_34 (h1b 6 (by decide)) rfl rfl ?_
      refine j_getR (b := (2, 4, 0)) dX6_sow_73 fsRX6_66 (h0 1 (by decide)) rfl rfl ?_
      refine j_iload 4 dX6_sow_76 rfl ?_
      refine j_iconst (v := 1) dX6_sow_78 (by decide) ?_
      refine j_invV (As := [.inl l5, .inl 1]) dX6_sow_79 msRX6_72 mbX9_at rfl rfl (Nat.le_of_ble_eq_true rfl) (Nat.le_of_ble_eq_true rfl) (by omega) (h2 4 (by decide) 0 (by decide)) rfl rfl (k_X9_at (d := d + 1) h2 (by decide) h) ?_
      rintro _ zM2 zN3 ⟨zr1, rfl, h⟩
      refine j_i2l dX6_sow_82 ?_
      refine j_ladd dX6_sow_83 ?_
      refine j_topl (fun zv4 hzv4 => ?_)
      replace h := h zv4 hzv4
      refine j_lstore_n dX6_sow_84 (by decide) rfl ?_
      refine j_iinc 4 dX6_sow_85 rfl rfl (by decide) rfl ?_
      refine j_goto (tgt := 62) dX6_sow_88 (by decide) ?_
      refine j_sub [2, 3, 4, 1, 0] rfl ?_
      exact zih _ _ _ _ _ _ h
def w_X6_sow (b : Nat) (a1 : Int32) (a2 : Int32) (M : am_I) (N : am_N) (post : am_I → am_N → Prop) : Prop :=
  w_X11_isCell a1 M N (fun zr1 zM2 zN3 => ((zr1 = 0 → post zM2 zN3) ∧ (¬ zr1 = 0 → w_X6_standsOn b a1 zM2 zN3 (fun zr4 zM5 zN6 => ((zr4 = 0 → w_X11_bit a1 zM5 zN6 (fun zr7 zM8 zN9 => vp_in a1 64 ∧ vp_in a1 64 ∧ vp_in a1 64 ∧ vp_in a1 64 ∧ ∃ n, w_X6_sow_p62 b post n a1 a2 0 0 (am_u (am_u (am_u (am_u zM8 (1, b, 7) a1.toNatClampNeg 0) (1, b, 8) a1.toNatClampNeg 0) (1, b, 9) a1.toNatClampNeg 0) (1, b, 11) a1.toNatClampNeg 0) (am_ul zN9 (1, b, 6) 8 ((zN6 (1, b, 6) 8) ||| zr7)))) ∧ (¬ zr4 = 0 → post zM5 zN6))))))
set_option maxRecDepth 10000 in
theorem k_X6_sow {d : Nat} {dm : List am_C} {b : Nat} (h0 : am_d0 dm) (h1b : am_d1 dm b) (h2 : am_d2 dm) {a1 : Int32} {a2 : Int32} {M : am_I} {N : am_N} {post : am_I → am_N → Prop} (h : w_X6_sow b a1 a2 M N post) : jg (d + 3) mX6_sow dm 0 [(0, .inr (.inr (1, b, 6))), (1, .inl a1), (2, .inl a2)] [] M N (am_pv post) := by
  refine j_iload_n 1 dX6_sow_0 rfl ?_
  refine j_invS (As := [.inl a1]) dX6_sow_1 msRX6_55 mbX11_isCell rfl rfl (Nat.le_of_ble_eq_true rfl) (Nat.le_of_ble_eq_true rfl) (by omega) (k_X11_isCell (d := d + 1)  h) ?_
  rintro _ zM2 zN3 ⟨zr1, rfl, h⟩
  refine j_if_eq (tgt := 15) dX6_sow_4 (by decide) (fun hc => ?_) (fun hc => ?_)
  · replace h := h.1 hc
    exact j_vret dX6_sow_15 rfl ⟨rfl, h⟩
  · replace h := h.2 hc
    refine j_aload_n 0 dX6_sow_7 rfl ?_
    refine j_iload_n 1 dX6_sow_8 rfl ?_
    refine j_invV (As := [.inl a1]) dX6_sow_9 msRX6_63 mbX6_standsOn rfl rfl (Nat.le_of_ble_eq_true rfl) (Nat.le_of_ble_eq_true rfl) (by omega) (h1b 6 (by decide)) rfl rfl (k_X6_standsOn (d := d + 0) h1b h) ?_
    rintro _ zM5 zN6 ⟨zr4, rfl, h⟩
    refine j_if_eq (tgt := 16) dX6_sow_12 (by decide) (fun hc => ?_) (fun hc => ?_)
    · replace h := h.1 hc
      refine j_aload_n 0 dX6_sow_16 rfl ?_
      refine j_dup dX6_sow_17 rfl ?_
      refine j_getL dX6_sow_18 fsRX6_44 (h1b 6 (by decide)) rfl ?_
      refine j_iload_n 1 dX6_sow_21 rfl ?_
      refine j_invS (As := [.inl a1]) dX6_sow_22 msRX6_59 mbX11_bit rfl rfl (Nat.le_of_ble_eq_true rfl) (Nat.le_of_ble_eq_true rfl) (by omega) (k_X11_bit (d := d + 1)  h) ?_
      rintro _ zM8 zN9 ⟨zr7, rfl, h⟩
      refine j_lor dX6_sow_25 ?_
      refine j_putL dX6_sow_26 fwRX6_44 (h1b 6 (by decide)) rfl ?_
      refine j_aload_n 0 dX6_sow_29 rfl ?_
      refine j_getR (b := (1, b, 7)) dX6_sow_30 fsRX6_9 (h1b 6 (by decide)) rfl rfl ?_
      refine j_iload_n 1 dX6_sow_33 rfl ?_
      refine j_iconst (v := 0) dX6_sow_34 (by decide) ?_
      obtain ⟨hq, h⟩ := h
      refine j_iast dX6_sow_35 (h1b 7 (by decide)) rfl hq ?_
      refine j_aload_n 0 dX6_sow_36 rfl ?_
      refine j_getR (b := (1, b, 8)) dX6_sow_37 fsRX6_15 (h1b 6 (by decide)) rfl rfl ?_
      refine j_iload_n 1 dX6_sow_40 rfl ?_
      refine j_iconst (v := 0) dX6_sow_41 (by decide) ?_
      obtain ⟨hq, h⟩ := h
      refine j_iast dX6_sow_42 (h1b 8 (by decide)) rfl hq ?_
      refine j_aload_n 0 dX6_sow_43 rfl ?_
      refine j_getR (b := (1, b, 9)) dX6_sow_44 fsRX6_18 (h1b 6 (by decide)) rfl rfl ?_
      refine j_iload_n 1 dX6_sow_47 rfl ?_
      refine j_iconst (v := 0) dX6_sow_48 (by decide) ?_
      obtain ⟨hq, h⟩ := h
      refine j_iast dX6_sow_49 (h1b 9 (by decide)) rfl hq ?_
      refine j_aload_n 0 dX6_sow_50 rfl ?_
      refine j_getR (b := (1, b, 11)) dX6_sow_51 fsRX6_24 (h1b 6 (by decide)) rfl rfl ?_
      refine j_iload_n 1 dX6_sow_54 rfl ?_
      refine j_iconst (v := 0) dX6_sow_55 (by decide) ?_
      obtain ⟨hq, h⟩ := h
      refine j_iast dX6_sow_56 (h1b 11 (by decide)) rfl hq ?_
      refine j_lconst (v := 0) dX6_sow_57 (by decide) ?_
      refine j_lstore_n dX6_sow_58 (by decide) rfl ?_
      refine j_iconst (v := 0) dX6_sow_59 (by decide) ?_
      refine j_istore dX6_sow_60 (by decide) rfl ?_
      refine j_sub [2, 3, 4, 1, 0] rfl ?_
      obtain ⟨n, h⟩ := h
      exact k_X6_sow_p62 h0 h1b h2 n _ _ _ _ _ _ h
    · replace h := h.2 hc
      exact j_vret dX6_sow_15 rfl ⟨rfl, h⟩
def w_X6_expose (b : Nat) (a1 : Int32) (a2 : Int32) (M : am_I) (N : am_N) (post : am_I → am_N → Prop) : Prop :=
  w_X11_isCell a1 M N (fun zr1 zM2 zN3 => ((zr1 = 0 → post zM2 zN3) ∧ (¬ zr1 = 0 → vp_in a1 64 ∧ post (am_u zM2 (1, b, 10) a1.toNatClampNeg a2) zN3)))
set_option maxRecDepth 10000 in
theorem k_X6_expose {d : Nat} {dm : List am_C} {b : Nat} (h1b : am_d1 dm b) {a1 : Int32} {a2 : Int32} {M : am_I} {N : am_N} {post : am_I → am_N → Prop} (h : w_X6_expose b a1 a2 M N post) : jg (d + 2) mX6_expose dm 0 [(0, .inr (.inr (1, b, 6))), (1, .inl a1), (2, .inl a2)] [] M N (am_pv post) := by
  refine j_iload_n 1 dX6_expose_0 rfl ?_
  refine j_invS (As := [.inl a1]) dX6_expose_1 msRX6_55 mbX11_isCell rfl rfl (Nat.le_of_ble_eq_true rfl) (Nat.le_of_ble_eq_true rfl) (by omega) (k_X11_isCell (d := d + 0)  h) ?_
  rintro _ zM2 zN3 ⟨zr1, rfl, h⟩
  refine j_if_eq (tgt := 14) dX6_expose_4 (by decide) (fun hc => ?_) (fun hc => ?_)
  · replace h := h.1 hc
    exact j_vret dX6_expose_14 rfl ⟨rfl, h⟩
  · replace h := h.2 hc
    refine j_aload_n 0 dX6_expose_7 rfl ?_
    refine j_getR (b := (1, b, 10)) dX6_expose_8 fsRX6_21 (h1b 6 (by decide)) rfl rfl ?_
    refine j_iload_n 1 dX6_expose_11 rfl ?_
    refine j_iload_n 2 dX6_expose_12 rfl ?_
    obtain ⟨hq, h⟩ := h
    refine j_iast dX6_expose_13 (h1b 10 (by decide)) rfl hq ?_
    exact j_vret dX6_expose_14 rfl ⟨rfl, h⟩
def w_X6_marksOn (b : Nat) (a1 : Int32) (M : am_I) (N : am_N) (post : Int32 → am_I → am_N → Prop) : Prop :=
  w_X11_isCell a1 M N (fun zr1 zM2 zN3 => ((zr1 = 0 → post 0 zM2 zN3) ∧ (¬ zr1 = 0 → vp_in a1 64 ∧ post (zM2 (1, b, 10) a1.toNatClampNeg) zM2 zN3)))
set_option maxRecDepth 10000 in
theorem k_X6_marksOn {d : Nat} {dm : List am_C} {b : Nat} (h1b : am_d1 dm b) {a1 : Int32} {M : am_I} {N : am_N} {post : Int32 → am_I → am_N → Prop} (h : w_X6_marksOn b a1 M N post) : jg (d + 2) mX6_marksOn dm 0 [(0, .inr (.inr (1, b, 6))), (1, .inl a1)] [] M N (am_pi post) := by
  refine j_iload_n 1 dX6_marksOn_0 rfl ?_
  refine j_invS (As := [.inl a1]) dX6_marksOn_1 msRX6_55 mbX11_isCell rfl rfl (Nat.le_of_ble_eq_true rfl) (Nat.le_of_ble_eq_true rfl) (by omega) (k_X11_isCell (d := d + 0)  h) ?_
  rintro _ zM2 zN3 ⟨zr1, rfl, h⟩
  refine j_if_eq (tgt := 16) dX6_marksOn_4 (by decide) (fun hc => ?_) (fun hc => ?_)
  · replace h := h.1 hc
    refine j_iconst (v := 0) dX6_marksOn_16 (by decide) ?_
    exact j_iret dX6_marksOn_17 rfl ⟨_, rfl, h⟩
  · replace h := h.2 hc
    refine j_aload_n 0 dX6_marksOn_7 rfl ?_
    refine j_getR (b := (1, b, 10)) dX6_marksOn_8 fsRX6_21 (h1b 6 (by decide)) rfl rfl ?_
    refine j_iload_n 1 dX6_marksOn_11 rfl ?_
    obtain ⟨hq, h⟩ := h
    refine j_iald dX6_marksOn_12 (h1b 10 (by decide)) rfl hq ?_
    refine j_goto (tgt := 17) dX6_marksOn_13 (by decide) ?_
    exact j_iret dX6_marksOn_17 rfl ⟨_, rfl, h⟩
def w_X6_weigh_p64 (b : Nat) (post : Int64 → am_I → am_N → Prop) (zk6 : Int32 → Int32 → Int64 → Int32 → am_I → am_N → Prop) (l1 : Int32) (l4 : Int32) (l7 : Int32) (s0 : Int32) (s1 : Int64) (M : am_I) (N : am_N) : Prop :=
  ∀ zv1 : Int64, zv1 = (s1 * s0.toInt64) / 100 → zk6 l1 l4 zv1 (l7 + 1) M N
set_option maxRecDepth 10000 in
theorem k_X6_weigh_p64 {d : Nat} {dm : List am_C} {b : Nat} (h0 : am_d0 dm) (h1b : am_d1 dm b) (h2 : am_d2 dm) {post : Int64 → am_I → am_N → Prop} {zk6 : Int32 → Int32 → Int64 → Int32 → am_I → am_N → Prop} (zhk6 : ∀ (l1 : Int32) (l4 : Int32) (l5 : Int64) (l7 : Int32) (M : am_I) (N : am_N), zk6 l1 l4 l5 l7 M N → jg (d + 2) mX6_weigh dm 6 [(0, .inr (.inr (1, b, 6))), (1, .inl l1), (4, .inl l4), (5, .inr (.inl l5)), (7, .inl l7)] [] M N (am_pl post)) (l1 : Int32) (l4 : Int32) (l7 : Int32) (s0 : Int32) (s1 : Int64) (M : am_I) (N : am_N) (h : w_X6_weigh_p64 b post zk6 l1 l4 l7 s0 s1 M N) : jg (d + 2) mX6_weigh dm 64 [(0, .inr (.inr (1, b, 6))), (1, .inl l1), (4, .inl l4), (7, .inl l7)] [.inl s0, .inr (.inl s1)] M N (am_pl post) := by
  refine j_i2l dX6_weigh_64 ?_
  refine j_lmul dX6_weigh_65 ?_
  refine j_ldc2 (v := 100) dX6_weigh_66 cw_628 ?_
  refine j_ldiv dX6_weigh_69 (by decide) ?_
  refine j_topl (fun zv1 hzv1 => ?_)
  replace h := h zv1 hzv1
  refine j_lstore dX6_weigh_70 (by decide) rfl ?_
  refine j_iinc 4 dX6_weigh_72 rfl rfl (by decide) rfl ?_
  refine j_goto (tgt := 6) dX6_weigh_75 (by decide) ?_
  refine j_sub [2, 3, 4, 1, 0] rfl ?_
  exact zhk6 _ _ _ _ _ _ h
def w_X6_weigh_p45 (b : Nat) (post : Int64 → am_I → am_N → Prop) (zk6 : Int32 → Int32 → Int64 → Int32 → am_I → am_N → Prop) (l1 : Int32) (l4 : Int32) (l5 : Int64) (l7 : Int32) (l8 : Int32) (s0 : Int32) (M : am_I) (N : am_N) : Prop :=
  ((s0 = 0 → w_X6_weigh_p64 b post zk6 l1 l4 l7 (100 - l8) l5 M N) ∧ (¬ s0 = 0 → w_X6_weigh_p64 b post zk6 l1 l4 l7 l8 l5 M N))
set_option maxRecDepth 10000 in
theorem k_X6_weigh_p45 {d : Nat} {dm : List am_C} {b : Nat} (h0 : am_d0 dm) (h1b : am_d1 dm b) (h2 : am_d2 dm) {post : Int64 → am_I → am_N → Prop} {zk6 : Int32 → Int32 → Int64 → Int32 → am_I → am_N → Prop} (zhk6 : ∀ (l1 : Int32) (l4 : Int32) (l5 : Int64) (l7 : Int32) (M : am_I) (N : am_N), zk6 l1 l4 l5 l7 M N → jg (d + 2) mX6_weigh dm 6 [(0, .inr (.inr (1, b, 6))), (1, .inl l1), (4, .inl l4), (5, .inr (.inl l5)), (7, .inl l7)] [] M N (am_pl post)) (l1 : Int32) (l4 : Int32) (l5 : Int64) (l7 : Int32) (l8 : Int32) (s0 : Int32) (M : am_I) (N : am_N) (h : w_X6_weigh_p45 b post zk6 l1 l4 l5 l7 l8 s0 M N) : jg (d + 2) mX6_weigh dm 45 [(0, .inr (.inr (1, b, 6))), (1, .inl l1), (4, .inl l4), (5, .inr (.inl l5)), (7, .inl l7), (8, .inl l8)] [.inl s0] M N (am_pl post) := by
  refine j_istore dX6_weigh_45 (by decide) rfl ?_
  refine j_lload 4 dX6_weigh_47 rfl ?_
  refine j_iload 0 dX6_weigh_49 rfl ?_
  refine j_if_eq (tgt := 59) dX6_weigh_51 (by decide) (fun hc => ?_) (fun hc => ?_)
  · replace h := h.1 hc
    refine j_bipush (v := 100) dX6_weigh_59 (by decide) ?_
    refine j_iload 6 dX6_weigh_61 rfl ?_
    refine j_isub dX6_weigh_63 ?_
    refine j_sub [1, 2, 3, 5] rfl ?_
    exact k_X6_weigh_p64 h0 h1b h2 zhk6 _ _ _ _ _ _ _ h
  · replace h := h.2 hc
    refine j_iload 6 dX6_weigh_54 rfl ?_
    refine j_goto (tgt := 64) dX6_weigh_56 (by decide) ?_
    refine j_sub [1, 2, 3, 5] rfl ?_
    exact k_X6_weigh_p64 h0 h1b h2 zhk6 _ _ _ _ _ _ _ h
def w_X6_weigh_p6_b (b : Nat) (post : Int64 → am_I → am_N → Prop) (zk6 : Int32 → Int32 → Int64 → Int32 → am_I → am_N → Prop) (l1 : Int32) (l4 : Int32) (l5 : Int64) (l7 : Int32) (M : am_I) (N : am_N) : Prop :=
  ((4 ≤ l7 → post l5 M N) ∧ (¬ 4 ≤ l7 → w_X9_at 4 l1 (2 + l7) M N (fun zr1 zM2 zN3 => ((¬ ((l4 >>> (l7 &&& 31)) &&& 1) = 1 → w_X6_weigh_p45 b post zk6 l1 l4 l5 l7 zr1 0 zM2 zN3) ∧ (((l4 >>> (l7 &&& 31)) &&& 1) = 1 → w_X6_weigh_p45 b post zk6 l1 l4 l5 l7 zr1 1 zM2 zN3)))))
noncomputable def w_X6_weigh_p6 (b : Nat) (post : Int64 → am_I → am_N → Prop) (n : Nat) : Int32 → Int32 → Int64 → Int32 → am_I → am_N → Prop :=
  Nat.rec (motive := fun _ => Int32 → Int32 → Int64 → Int32 → am_I → am_N → Prop) (fun _ _ _ _ _ _ => False) (fun _ zk => w_X6_weigh_p6_b b post zk) n
theorem w_X6_weigh_p6_s (b : Nat) (post : Int64 → am_I → am_N → Prop) (n : Nat) (l1 : Int32) (l4 : Int32) (l5 : Int64) (l7 : Int32) (M : am_I) (N : am_N) : w_X6_weigh_p6 b post (n + 1) l1 l4 l5 l7 M N = w_X6_weigh_p6_b b post (w_X6_weigh_p6 b post n) l1 l4 l5 l7 M N := rfl
set_option maxRecDepth 10000 in
theorem k_X6_weigh_p6 {d : Nat} {dm : List am_C} {b : Nat} (h0 : am_d0 dm) (h1b : am_d1 dm b) (h2 : am_d2 dm) {post : Int64 → am_I → am_N → Prop} : ∀ (n : Nat) (l1 : Int32) (l4 : Int32) (l5 : Int64) (l7 : Int32) (M : am_I) (N : am_N), w_X6_weigh_p6 b post n l1 l4 l5 l7 M N → jg (d + 2) mX6_weigh dm 6 [(0, .inr (.inr (1, b, 6))), (1, .inl l1), (4, .inl l4), (5, .inr (.inl l5)), (7, .inl l7)] [] M N (am_pl post) := by
  intro n
  induction n with
  | zero => intro l1 l4 l5 l7 M N h; exact h.elim
  | succ n zih =>
    intro l1 l4 l5 l7 M N h
    replace h : w_X6_weigh_p6_b b post (w_X6_weigh_p6 b post n) l1 l4 l5 l7 M N := h
    refine j_iload 4 dX6_weigh_6 rfl ?_
    refine j_iconst (v := 4) dX6_weigh_8 (by decide) ?_
    refine j_icmp_ge (tgt := 78) dX6_weigh_9 (by decide) (fun hc => ?_) (fun hc => ?_)
    · replace h := h.1 hc
      refine j_lload 3 dX6_weigh_78 rfl ?_
      exact j_lret dX6_weigh_80 rfl ⟨_, rfl, h⟩
    · replace h := h.2 hc
      refine j_aload_n 0 dX6_weigh_12 rfl ?_
      refine j_getR (b := (0, 0, 1)) dX6_weigh_13 fsRX6_34 (h1b 6 (by decide)) rfl rfl ?_
      refine j_getR (b := (2, 4, 0)) dX6_weigh_16 fsRX6_66 (h0 1 (by decide)) rfl rfl ?_
      refine j_iload_n 1 dX6_weigh_19 rfl ?_
      refine j_iconst (v := 2) dX6_weigh_20 (by decide) ?_
      refine j_iload 4 dX6_weigh_21 rfl ?_
      refine j_iadd dX6_weigh_23 ?_
      refine j_invV (As := [.inl l1, .inl (2 + l7)]) dX6_weigh_24 msRX6_72 mbX9_at rfl rfl (Nat.le_of_ble_eq_true rfl) (Nat.le_of_ble_eq_true rfl) (by omega) (h2 4 (by decide) 0 (by decide)) rfl rfl (k_X9_at (d := d + 0) h2 (by decide) h) ?_
      rintro _ zM2 zN3 ⟨zr1, rfl, h⟩
      refine j_istore dX6_weigh_27 (by decide) rfl ?_
      refine j_iload 3 dX6_weigh_29 rfl ?_
      refine j_iload 5 dX6_weigh_31 rfl ?_
      refine j_ishr dX6_weigh_33 ?_
      refine j_iconst (v := 1) dX6_weigh_34 (by decide) ?_
      refine j_iand dX6_weigh_35 ?_
      refine j_iconst (v := 1) dX6_weigh_36 (by decide) ?_
      refine j_icmp_ne (tgt := 44) dX6_weigh_37 (by decide) (fun hc => ?_) (fun hc => ?_)
      · replace h := h.1 hc
        refine j_iconst (v := 0) dX6_weigh_44 (by decide) ?_
        refine j_sub [1, 2, 3, 4, 5, 0] rfl ?_
        exact k_X6_weigh_p45 h0 h1b h2 zih _ _ _ _ _ _ _ _ h
      · replace h := h.2 hc
        refine j_iconst (v := 1) dX6_weigh_40 (by decide) ?_
        refine j_goto (tgt := 45) dX6_weigh_41 (by decide) ?_
        refine j_sub [1, 2, 3, 4, 5, 0] rfl ?_
        exact k_X6_weigh_p45 h0 h1b h2 zih _ _ _ _ _ _ _ _ h
def w_X6_weigh (b : Nat) (a1 : Int32) (a2 : Int64) (a3 : Int32) (M : am_I) (N : am_N) (post : Int64 → am_I → am_N → Prop) : Prop :=
  ∃ n, w_X6_weigh_p6 b post n a1 a3 a2 0 M N
set_option maxRecDepth 10000 in
theorem k_X6_weigh {d : Nat} {dm : List am_C} {b : Nat} (h0 : am_d0 dm) (h1b : am_d1 dm b) (h2 : am_d2 dm) {a1 : Int32} {a2 : Int64} {a3 : Int32} {M : am_I} {N : am_N} {post : Int64 → am_I → am_N → Prop} (h : w_X6_weigh b a1 a2 a3 M N post) : jg (d + 2) mX6_weigh dm 0 [(0, .inr (.inr (1, b, 6))), (1, .inl a1), (2, .inr (.inl a2)), (4, .inl a3)] [] M N (am_pl post) := by
  refine j_lload_n 2 dX6_weigh_0 rfl ?_
  refine j_lstore dX6_weigh_1 (by decide) rfl ?_
  refine j_iconst (v := 0) dX6_weigh_3 (by decide) ?_
  refine j_istore dX6_weigh_4 (by decide) rfl ?_
  refine j_sub [2, 3, 5, 1, 0] rfl ?_
  obtain ⟨n, h⟩ := h
  exact k_X6_weigh_p6 h0 h1b h2 n _ _ _ _ _ _ h
def w_X6_shareOf (b : Nat) (a1 : Int32) (a2 : Int32) (M : am_I) (N : am_N) (post : Int32 → am_I → am_N → Prop) : Prop :=
  w_X11_isCell a1 M N (fun zr1 zM2 zN3 => ((zr1 = 0 → post 0 zM2 zN3) ∧ (¬ zr1 = 0 → w_X11_within a2 0 4 zM2 zN3 (fun zr4 zM5 zN6 => ((zr4 = 0 → post 0 zM5 zN6) ∧ (¬ zr4 = 0 → vp_in ((a1 * 5) + a2) 320 ∧ post (zM5 (1, b, 12) ((a1 * 5) + a2).toNatClampNeg) zM5 zN6))))))
set_option maxRecDepth 10000 in
theorem k_X6_shareOf {d : Nat} {dm : List am_C} {b : Nat} (h1b : am_d1 dm b) {a1 : Int32} {a2 : Int32} {M : am_I} {N : am_N} {post : Int32 → am_I → am_N → Prop} (h : w_X6_shareOf b a1 a2 M N post) : jg (d + 2) mX6_shareOf dm 0 [(0, .inr (.inr (1, b, 6))), (1, .inl a1), (2, .inl a2)] [] M N (am_pi post) := by
  refine j_iload_n 1 dX6_shareOf_0 rfl ?_
  refine j_invS (As := [.inl a1]) dX6_shareOf_1 msRX6_55 mbX11_isCell rfl rfl (Nat.le_of_ble_eq_true rfl) (Nat.le_of_ble_eq_true rfl) (by omega) (k_X11_isCell (d := d + 0)  h) ?_
  rintro _ zM2 zN3 ⟨zr1, rfl, h⟩
  refine j_if_eq (tgt := 29) dX6_shareOf_4 (by decide) (fun hc => ?_) (fun hc => ?_)
  · replace h := h.1 hc
    refine j_iconst (v := 0) dX6_shareOf_29 (by decide) ?_
    exact j_iret dX6_shareOf_30 rfl ⟨_, rfl, h⟩
  · replace h := h.2 hc
    refine j_iload_n 2 dX6_shareOf_7 rfl ?_
    refine j_iconst (v := 0) dX6_shareOf_8 (by decide) ?_
    refine j_iconst (v := 4) dX6_shareOf_9 (by decide) ?_
    refine j_invS (As := [.inl a2, .inl 0, .inl 4]) dX6_shareOf_10 msRX6_86 mbX11_within rfl rfl (Nat.le_of_ble_eq_true rfl) (Nat.le_of_ble_eq_true rfl) (by omega) (k_X11_within (d := d + 0)  h) ?_
    rintro _ zM5 zN6 ⟨zr4, rfl, h⟩
    refine j_if_eq (tgt := 29) dX6_shareOf_13 (by decide) (fun hc => ?_) (fun hc => ?_)
    · replace h := h.1 hc
      refine j_iconst (v := 0) dX6_shareOf_29 (by decide) ?_
      exact j_iret dX6_shareOf_30 rfl ⟨_, rfl, h⟩
    · replace h := h.2 hc
      refine j_aload_n 0 dX6_shareOf_16 rfl ?_
      refine j_getR (b := (1, b, 12)) dX6_shareOf_17 fsRX6_27 (h1b 6 (by decide)) rfl rfl ?_
      refine j_iload_n 1 dX6_shareOf_20 rfl ?_
      refine j_iconst (v := 5) dX6_shareOf_21 (by decide) ?_
      refine j_imul dX6_shareOf_22 ?_
      refine j_iload_n 2 dX6_shareOf_23 rfl ?_
      refine j_iadd dX6_shareOf_24 ?_
      obtain ⟨hq, h⟩ := h
      refine j_iald dX6_shareOf_25 (h1b 12 (by decide)) rfl hq ?_
      refine j_goto (tgt := 30) dX6_shareOf_26 (by decide) ?_
      exact j_iret dX6_shareOf_30 rfl ⟨_, rfl, h⟩
def w_X6_weedHundredths_p5_b (b : Nat) (post : Int32 → am_I → am_N → Prop) (zk5 : Int32 → Int64 → Int32 → am_I → am_N → Prop) (l1 : Int32) (l2 : Int64) (l4 : Int32) (M : am_I) (N : am_N) : Prop :=
  ((5 ≤ l4 → post ((l2 / 10000000).toInt32) M N) ∧ (¬ 5 ≤ l4 → w_X9_at 4 l4 0 M N (fun zr1 zM2 zN3 => ((¬ zr1 = 1 → zk5 l1 l2 (l4 + 1) zM2 zN3) ∧ (zr1 = 1 → w_X6_shareOf b l1 l4 zM2 zN3 (fun zr4 zM5 zN6 => ∀ zv7 : Int64, zv7 = l2 + zr4.toInt64 → zk5 l1 zv7 (l4 + 1) zM5 zN6))))))
noncomputable def w_X6_weedHundredths_p5 (b : Nat) (post : Int32 → am_I → am_N → Prop) (n : Nat) : Int32 → Int64 → Int32 → am_I → am_N → Prop :=
  Nat.rec (motive := fun _ => Int32 → Int64 → Int32 → am_I → am_N → Prop) (fun _ _ _ _ _ => False) (fun _ zk => w_X6_weedHundredths_p5_b b post zk) n
theorem w_X6_weedHundredths_p5_s (b : Nat) (post : Int32 → am_I → am_N → Prop) (n : Nat) (l1 : Int32) (l2 : Int64) (l4 : Int32) (M : am_I) (N : am_N) : w_X6_weedHundredths_p5 b post (n + 1) l1 l2 l4 M N = w_X6_weedHundredths_p5_b b post (w_X6_weedHundredths_p5 b post n) l1 l2 l4 M N := rfl
set_option maxRecDepth 10000 in
theorem k_X6_weedHundredths_p5 {d : Nat} {dm : List am_C} {b : Nat} (h0 : am_d0 dm) (h1b : am_d1 dm b) (h2 : am_d2 dm) {post : Int32 → am_I → am_N → Prop} : ∀ (n : Nat) (l1 : Int32) (l2 : Int64) (l4 : Int32) (M : am_I) (N : am_N), w_X6_weedHundredths_p5 b post n l1 l2 l4 M N → jg (d + 3) mX6_weedHundredths dm 5 [(0, .inr (.inr (1, b, 6))), (1, .inl l1), (2, .inr (.inl l2)), (4, .inl l4)] [] M N (am_pi post) := by
  intro n
  induction n with
  | zero => intro l1 l2 l4 M N h; exact h.elim
  | succ n zih =>
    intro l1 l2 l4 M N h
    replace h : w_X6_weedHundredths_p5_b b post (w_X6_weedHundredths_p5 b post n) l1 l2 l4 M N := h
    refine j_iload 3 dX6_weedHundredths_5 rfl ?_
    refine j_iconst (v := 5) dX6_weedHundredths_7 (by decide) ?_
    refine j_icmp_ge (tgt := 45) dX6_weedHundredths_8 (by decide) (fun hc => ?_) (fun hc => ?_)
    · replace h := h.1 hc
      refine j_lload_n 2 dX6_weedHundredths_45 rfl ?_
      refine j_ldc2 (v := 10000000) dX6_weedHundredths_46 cw_923 ?_
      refine j_ldiv dX6_weedHundredths_49 (by decide) ?_
      refine j_l2i dX6_weedHundredths_50 ?_
      exact j_iret dX6_weedHundredths_51 rfl ⟨_, rfl, h⟩
    · replace h := h.2 hc
      refine j_aload_n 0 dX6_weedHundredths_11 rfl ?_
      refine j_getR (b := (0, 0, 1)) dX6_weedHundredths_12 fsRX6_34 (h1b 6 (by decide)) rfl rfl ?_
      refine j_getR (b := (2, 4, 0)) dX6_weedHundredths_15 fsRX6_66 (h0 1 (by decide)) rfl rfl ?_
      refine j_iload 3 dX6_weedHundredths_18 rfl ?_
      refine j_iconst (v := 0) dX6_weedHundredths_20 (by decide) ?_
      refine j_invV (As := [.inl l4, .inl 0]) dX6_weedHundredths_21 msRX6_72 mbX9_at rfl rfl (Nat.le_of_ble_eq_true rfl) (Nat.le_of_ble_eq_true rfl) (by omega) (h2 4 (by decide) 0 (by decide)) rfl rfl (k_X9_at (d := d + 1) h2 (by decide) h) ?_
      rintro _ zM2 zN3 ⟨zr1, rfl, h⟩
      refine j_iconst (v := 1) dX6_weedHundredths_24 (by decide) ?_
      refine j_icmp_ne (tgt := 39) dX6_weedHundredths_25 (by decide) (fun hc => ?_) (fun hc => ?_)
      · replace h := h.1 hc
        refine j_iinc 3 dX6_weedHundredths_39 rfl rfl (by decide) rfl ?_
        refine j_goto (tgt := 5) dX6_weedHundredths_42 (by decide) ?_
        refine j_sub [1, 2, 3, 0] rfl ?_
        exact zih _ _ _ _ _ h
      · replace h := h.2 hc
        refine j_lload_n 2 dX6_weedHundredths_28 rfl ?_
        refine j_aload_n 0 dX6_weedHundredths_29 rfl ?_
        refine j_iload_n 1 dX6_weedHundredths_30 rfl ?_
        refine j_iload 3 dX6_weedHundredths_31 rfl ?_
        refine j_invV (As := [.inl l1, .inl l4]) dX6_weedHundredths_33 msRX6_90 mbX6_shareOf rfl rfl (Nat.le_of_ble_eq_true rfl) (Nat.le_of_ble_eq_true rfl) (by omega) (h1b 6 (by decide)) rfl rfl (k_X6_shareOf (d := d + 0) h1b h) ?_
        rintro _ zM5 zN6 ⟨zr4, rfl, h⟩
        refine j_i2l dX6_weedHundredths_36 ?_
        refine j_ladd dX6_weedHundredths_37 ?_
        refine j_topl (fun zv7 hzv7 => ?_)
        replace h := h zv7 hzv7
        refine j_lstore_n dX6_weedHundredths_38 (by decide) rfl ?_
        refine j_iinc 3 dX6_weedHundredths_39 rfl rfl (by decide) rfl ?_
        refine j_goto (tgt := 5) dX6_weedHundredths_42 (by decide) ?_
        refine j_sub [2, 3, 1, 0] rfl ?_
        exact zih _ _ _ _ _ h
def w_X6_weedHundredths (b : Nat) (a1 : Int32) (M : am_I) (N : am_N) (post : Int32 → am_I → am_N → Prop) : Prop :=
  ∃ n, w_X6_weedHundredths_p5 b post n a1 0 0 M N
set_option maxRecDepth 10000 in
theorem k_X6_weedHundredths {d : Nat} {dm : List am_C} {b : Nat} (h0 : am_d0 dm) (h1b : am_d1 dm b) (h2 : am_d2 dm) {a1 : Int32} {M : am_I} {N : am_N} {post : Int32 → am_I → am_N → Prop} (h : w_X6_weedHundredths b a1 M N post) : jg (d + 3) mX6_weedHundredths dm 0 [(0, .inr (.inr (1, b, 6))), (1, .inl a1)] [] M N (am_pi post) := by
  refine j_lconst (v := 0) dX6_weedHundredths_0 (by decide) ?_
  refine j_lstore_n dX6_weedHundredths_1 (by decide) rfl ?_
  refine j_iconst (v := 0) dX6_weedHundredths_2 (by decide) ?_
  refine j_istore dX6_weedHundredths_3 (by decide) rfl ?_
  refine j_sub [2, 3, 1, 0] rfl ?_
  obtain ⟨n, h⟩ := h
  exact k_X6_weedHundredths_p5 h0 h1b h2 n _ _ _ _ _ h
def w_X6_sicken (b : Nat) (a1 : Int32) (a2 : Int32) (M : am_I) (N : am_N) (post : am_I → am_N → Prop) : Prop :=
  w_X6_standsOn b a1 M N (fun zr1 zM2 zN3 => ((¬ zr1 = 0 → ((a2 = 0 → w_X11_bit a1 zM2 zN3 (fun zr4 zM5 zN6 => post zM5 (am_ul zN6 (1, b, 6) 9 ((zN3 (1, b, 6) 9) &&& (zr4 ^^^ (-1)))))) ∧ (¬ a2 = 0 → w_X11_bit a1 zM2 zN3 (fun zr7 zM8 zN9 => post zM8 (am_ul zN9 (1, b, 6) 9 ((zN3 (1, b, 6) 9) ||| zr7)))))) ∧ (zr1 = 0 → post zM2 zN3)))
set_option maxRecDepth 10000 in
theorem k_X6_sicken {d : Nat} {dm : List am_C} {b : Nat} (h1b : am_d1 dm b) {a1 : Int32} {a2 : Int32} {M : am_I} {N : am_N} {post : am_I → am_N → Prop} (h : w_X6_sicken b a1 a2 M N post) : jg (d + 3) mX6_sicken dm 0 [(0, .inr (.inr (1, b, 6))), (1, .inl a1), (2, .inl a2)] [] M N (am_pv post) := by
  refine j_aload_n 0 dX6_sicken_0 rfl ?_
  refine j_iload_n 1 dX6_sicken_1 rfl ?_
  refine j_invV (As := [.inl a1]) dX6_sicken_2 msRX6_63 mbX6_standsOn rfl rfl (Nat.le_of_ble_eq_true rfl) (Nat.le_of_ble_eq_true rfl) (by omega) (h1b 6 (by decide)) rfl rfl (k_X6_standsOn (d := d + 0) h1b h) ?_
  rintro _ zM2 zN3 ⟨zr1, rfl, h⟩
  refine j_if_ne (tgt := 9) dX6_sicken_5 (by decide) (fun hc => ?_) (fun hc => ?_)
  · replace h := h.1 hc
    refine j_aload_n 0 dX6_sicken_9 rfl ?_
    refine j_iload_n 2 dX6_sicken_10 rfl ?_
    refine j_if_eq (tgt := 26) dX6_sicken_11 (by decide) (fun hc => ?_) (fun hc => ?_)
    · replace h := h.1 hc
      refine j_aload_n 0 dX6_sicken_26 rfl ?_
      refine j_getL dX6_sicken_27 fsRX6_48 (h1b 6 (by decide)) rfl ?_
      refine j_iload_n 1 dX6_sicken_30 rfl ?_
      refine j_invS (As := [.inl a1]) dX6_sicken_31 msRX6_59 mbX11_bit rfl rfl (Nat.le_of_ble_eq_true rfl) (Nat.le_of_ble_eq_true rfl) (by omega) (k_X11_bit (d := d + 1)  h) ?_
      rintro _ zM5 zN6 ⟨zr4, rfl, h⟩
      refine j_ldc2 (v := (-1)) dX6_sicken_34 cw_633 ?_
      refine j_lxor dX6_sicken_37 ?_
      refine j_land dX6_sicken_38 ?_
      refine j_putL dX6_sicken_39 fwRX6_48 (h1b 6 (by decide)) rfl ?_
      exact j_vret dX6_sicken_42 rfl ⟨rfl, h⟩
    · replace h := h.2 hc
      refine j_aload_n 0 dX6_sicken_14 rfl ?_
      refine j_getL dX6_sicken_15 fsRX6_48 (h1b 6 (by decide)) rfl ?_
      refine j_iload_n 1 dX6_sicken_18 rfl ?_
      refine j_invS (As := [.inl a1]) dX6_sicken_19 msRX6_59 mbX11_bit rfl rfl (Nat.le_of_ble_eq_true rfl) (Nat.le_of_ble_eq_true rfl) (by omega) (k_X11_bit (d := d + 1)  h) ?_
      rintro _ zM8 zN9 ⟨zr7, rfl, h⟩
      refine j_lor dX6_sicken_22 ?_
      refine j_goto (tgt := 39) dX6_sicken_23 (by decide) ?_
      refine j_putL dX6_sicken_39 fwRX6_48 (h1b 6 (by decide)) rfl ?_
      exact j_vret dX6_sicken_42 rfl ⟨rfl, h⟩
  · replace h := h.2 hc
    exact j_vret dX6_sicken_8 rfl ⟨rfl, h⟩
def w_X6_nourish (b : Nat) (a1 : Int32) (a2 : Int32) (M : am_I) (N : am_N) (post : am_I → am_N → Prop) : Prop :=
  w_X6_standsOn b a1 M N (fun zr1 zM2 zN3 => ((zr1 = 0 → post zM2 zN3) ∧ (¬ zr1 = 0 → vp_in a1 64 ∧ vp_in a1 64 ∧ post (am_u zM2 (1, b, 9) a1.toNatClampNeg ((zM2 (1, b, 9) a1.toNatClampNeg) + a2)) zN3)))
set_option maxRecDepth 10000 in
theorem k_X6_nourish {d : Nat} {dm : List am_C} {b : Nat} (h1b : am_d1 dm b) {a1 : Int32} {a2 : Int32} {M : am_I} {N : am_N} {post : am_I → am_N → Prop} (h : w_X6_nourish b a1 a2 M N post) : jg (d + 3) mX6_nourish dm 0 [(0, .inr (.inr (1, b, 6))), (1, .inl a1), (2, .inl a2)] [] M N (am_pv post) := by
  refine j_aload_n 0 dX6_nourish_0 rfl ?_
  refine j_iload_n 1 dX6_nourish_1 rfl ?_
  refine j_invV (As := [.inl a1]) dX6_nourish_2 msRX6_63 mbX6_standsOn rfl rfl (Nat.le_of_ble_eq_true rfl) (Nat.le_of_ble_eq_true rfl) (by omega) (h1b 6 (by decide)) rfl rfl (k_X6_standsOn (d := d + 0) h1b h) ?_
  rintro _ zM2 zN3 ⟨zr1, rfl, h⟩
  refine j_if_eq (tgt := 18) dX6_nourish_5 (by decide) (fun hc => ?_) (fun hc => ?_)
  · replace h := h.1 hc
    exact j_vret dX6_nourish_18 rfl ⟨rfl, h⟩
  · replace h := h.2 hc
    refine j_aload_n 0 dX6_nourish_8 rfl ?_
    refine j_getR (b := (1, b, 9)) dX6_nourish_9 fsRX6_18 (h1b 6 (by decide)) rfl rfl ?_
    refine j_iload_n 1 dX6_nourish_12 rfl ?_
    refine j_dup2 dX6_nourish_13 rfl rfl ?_
    obtain ⟨hq, h⟩ := h
    refine j_iald dX6_nourish_14 (h1b 9 (by decide)) rfl hq ?_
    refine j_iload_n 2 dX6_nourish_15 rfl ?_
    refine j_iadd dX6_nourish_16 ?_
    obtain ⟨hq, h⟩ := h
    refine j_iast dX6_nourish_17 (h1b 9 (by decide)) rfl hq ?_
    exact j_vret dX6_nourish_18 rfl ⟨rfl, h⟩
def w_X6_remove (b : Nat) (a1 : Int32) (a2 : Int32) (M : am_I) (N : am_N) (post : am_I → am_N → Prop) : Prop :=
  w_X6_standsOn b a1 M N (fun zr1 zM2 zN3 => ((zr1 = 0 → post zM2 zN3) ∧ (¬ zr1 = 0 → w_X11_bit a1 zM2 zN3 (fun zr4 zM5 zN6 => w_X11_bit a1 zM5 (am_ul zN6 (1, b, 6) 8 ((zN3 (1, b, 6) 8) &&& (zr4 ^^^ (-1)))) (fun zr7 zM8 zN9 => vp_in a1 64 ∧ post (am_u zM8 (1, b, 11) a1.toNatClampNeg a2) (am_ul zN9 (1, b, 6) 9 (((am_ul zN6 (1, b, 6) 8 ((zN3 (1, b, 6) 8) &&& (zr4 ^^^ (-1)))) (1, b, 6) 9) &&& (zr7 ^^^ (-1)))))))))
set_option maxRecDepth 10000 in
theorem k_X6_remove {d : Nat} {dm : List am_C} {b : Nat} (h1b : am_d1 dm b) {a1 : Int32} {a2 : Int32} {M : am_I} {N : am_N} {post : am_I → am_N → Prop} (h : w_X6_remove b a1 a2 M N post) : jg (d + 3) mX6_remove dm 0 [(0, .inr (.inr (1, b, 6))), (1, .inl a1), (2, .inl a2)] [] M N (am_pv post) := by
  refine j_aload_n 0 dX6_remove_0 rfl ?_
  refine j_iload_n 1 dX6_remove_1 rfl ?_
  refine j_invV (As := [.inl a1]) dX6_remove_2 msRX6_63 mbX6_standsOn rfl rfl (Nat.le_of_ble_eq_true rfl) (Nat.le_of_ble_eq_true rfl) (by omega) (h1b 6 (by decide)) rfl rfl (k_X6_standsOn (d := d + 0) h1b h) ?_
  rintro _ zM2 zN3 ⟨zr1, rfl, h⟩
  refine j_if_eq (tgt := 49) dX6_remove_5 (by decide) (fun hc => ?_) (fun hc => ?_)
  · replace h := h.1 hc
    exact j_vret dX6_remove_49 rfl ⟨rfl, h⟩
  · replace h := h.2 hc
    refine j_aload_n 0 dX6_remove_8 rfl ?_
    refine j_dup dX6_remove_9 rfl ?_
    refine j_getL dX6_remove_10 fsRX6_44 (h1b 6 (by decide)) rfl ?_
    refine j_iload_n 1 dX6_remove_13 rfl ?_
    refine j_invS (As := [.inl a1]) dX6_remove_14 msRX6_59 mbX11_bit rfl rfl (Nat.le_of_ble_eq_true rfl) (Nat.le_of_ble_eq_true rfl) (by omega) (k_X11_bit (d := d + 1)  h) ?_
    rintro _ zM5 zN6 ⟨zr4, rfl, h⟩
    refine j_ldc2 (v := (-1)) dX6_remove_17 cw_633 ?_
    refine j_lxor dX6_remove_20 ?_
    refine j_land dX6_remove_21 ?_
    refine j_putL dX6_remove_22 fwRX6_44 (h1b 6 (by decide)) rfl ?_
    refine j_aload_n 0 dX6_remove_25 rfl ?_
    refine j_dup dX6_remove_26 rfl ?_
    refine j_getL dX6_remove_27 fsRX6_48 (h1b 6 (by decide)) rfl ?_
    refine j_iload_n 1 dX6_remove_30 rfl ?_
    refine j_invS (As := [.inl a1]) dX6_remove_31 msRX6_59 mbX11_bit rfl rfl (Nat.le_of_ble_eq_true rfl) (Nat.le_of_ble_eq_true rfl) (by omega) (k_X11_bit (d := d + 1)  h) ?_
    rintro _ zM8 zN9 ⟨zr7, rfl, h⟩
    refine j_ldc2 (v := (-1)) dX6_remove_34 cw_633 ?_
    refine j_lxor dX6_remove_37 ?_
    refine j_land dX6_remove_38 ?_
    refine j_putL dX6_remove_39 fwRX6_48 (h1b 6 (by decide)) rfl ?_
    refine j_aload_n 0 dX6_remove_42 rfl ?_
    refine j_getR (b := (1, b, 11)) dX6_remove_43 fsRX6_24 (h1b 6 (by decide)) rfl rfl ?_
    refine j_iload_n 1 dX6_remove_46 rfl ?_
    refine j_iload_n 2 dX6_remove_47 rfl ?_
    obtain ⟨hq, h⟩ := h
    refine j_iast dX6_remove_48 (h1b 11 (by decide)) rfl hq ?_
    exact j_vret dX6_remove_49 rfl ⟨rfl, h⟩
def w_X6_drown_p2_b (b : Nat) (post : am_I → am_N → Prop) (zk2 : Int32 → am_I → am_N → Prop) (l2 : Int32) (M : am_I) (N : am_N) : Prop :=
  ((64 ≤ l2 → post M N) ∧ (¬ 64 ≤ l2 → vp_in l2 64 ∧ (((M (1, b, 3) l2.toNatClampNeg) ≤ 600 → zk2 (l2 + 1) M N) ∧ (¬ (M (1, b, 3) l2.toNatClampNeg) ≤ 600 → w_X6_remove b l2 4 M N (fun zM1 zN2 => zk2 (l2 + 1) zM1 zN2)))))
noncomputable def w_X6_drown_p2 (b : Nat) (post : am_I → am_N → Prop) (n : Nat) : Int32 → am_I → am_N → Prop :=
  Nat.rec (motive := fun _ => Int32 → am_I → am_N → Prop) (fun _ _ _ => False) (fun _ zk => w_X6_drown_p2_b b post zk) n
theorem w_X6_drown_p2_s (b : Nat) (post : am_I → am_N → Prop) (n : Nat) (l2 : Int32) (M : am_I) (N : am_N) : w_X6_drown_p2 b post (n + 1) l2 M N = w_X6_drown_p2_b b post (w_X6_drown_p2 b post n) l2 M N := rfl
set_option maxRecDepth 10000 in
theorem k_X6_drown_p2 {d : Nat} {dm : List am_C} {b : Nat} (h1b : am_d1 dm b) {post : am_I → am_N → Prop} : ∀ (n : Nat) (l2 : Int32) (M : am_I) (N : am_N), w_X6_drown_p2 b post n l2 M N → jg (d + 4) mX6_drown dm 2 [(0, .inr (.inr (1, b, 6))), (1, .inr (.inr (1, b, 1))), (2, .inl l2)] [] M N (am_pv post) := by
  intro n
  induction n with
  | zero => intro l2 M N h; exact h.elim
  | succ n zih =>
    intro l2 M N h
    replace h : w_X6_drown_p2_b b post (w_X6_drown_p2 b post n) l2 M N := h
    refine j_iload_n 2 dX6_drown_2 rfl ?_
    refine j_bipush (v := 64) dX6_drown_3 (by decide) ?_
    refine j_icmp_ge (tgt := 32) dX6_drown_5 (by decide) (fun hc => ?_) (fun hc => ?_)
    · replace h := h.1 hc
      exact j_vret dX6_drown_32 rfl ⟨rfl, h⟩
    · replace h := h.2 hc
      refine j_aload_n 1 dX6_drown_8 rfl ?_
      refine j_getR (b := (1, b, 3)) dX6_drown_9 fsRX6_97 (h1b 1 (by decide)) rfl rfl ?_
      refine j_iload_n 2 dX6_drown_12 rfl ?_
      obtain ⟨hq, h⟩ := h
      refine j_iald dX6_drown_13 (h1b 3 (by decide)) rfl hq ?_
      refine j_sipush (v := 600) dX6_drown_14 (by decide) ?_
      refine j_icmp_le (tgt := 26) dX6_drown_17 (by decide) (fun hc => ?_) (fun hc => ?_)
      · replace h := h.1 hc
        refine j_iinc 2 dX6_drown_26 rfl rfl (by decide) rfl ?_
        refine j_goto (tgt := 2) dX6_drown_29 (by decide) ?_
        refine j_sub [1, 2, 0] rfl ?_
        exact zih _ _ _ h
      · replace h := h.2 hc
        refine j_aload_n 0 dX6_drown_20 rfl ?_
        refine j_iload_n 2 dX6_drown_21 rfl ?_
        refine j_iconst (v := 4) dX6_drown_22 (by decide) ?_
        refine j_invV (As := [.inl l2, .inl 4]) dX6_drown_23 msRX6_102 mbX6_remove rfl rfl (Nat.le_of_ble_eq_true rfl) (Nat.le_of_ble_eq_true rfl) (by omega) (h1b 6 (by decide)) rfl rfl (k_X6_remove (d := d + 0) h1b h) ?_
        rintro _ zM1 zN2 ⟨rfl, h⟩
        refine j_iinc 2 dX6_drown_26 rfl rfl (by decide) rfl ?_
        refine j_goto (tgt := 2) dX6_drown_29 (by decide) ?_
        refine j_sub [1, 2, 0] rfl ?_
        exact zih _ _ _ h
def w_X6_drown (b : Nat) (M : am_I) (N : am_N) (post : am_I → am_N → Prop) : Prop :=
  ∃ n, w_X6_drown_p2 b post n 0 M N
set_option maxRecDepth 10000 in
theorem k_X6_drown {d : Nat} {dm : List am_C} {b : Nat} (h1b : am_d1 dm b) {M : am_I} {N : am_N} {post : am_I → am_N → Prop} (h : w_X6_drown b M N post) : jg (d + 4) mX6_drown dm 0 [(0, .inr (.inr (1, b, 6))), (1, .inr (.inr (1, b, 1)))] [] M N (am_pv post) := by
  refine j_iconst (v := 0) dX6_drown_0 (by decide) ?_
  refine j_istore_n dX6_drown_1 (by decide) rfl ?_
  refine j_sub [1, 2, 0] rfl ?_
  obtain ⟨n, h⟩ := h
  exact k_X6_drown_p2 h1b n _ _ _ h
def w_X6_drawLot (b : Nat) (a1 : Int32) (M : am_I) (N : am_N) (post : Int32 → am_I → am_N → Prop) : Prop :=
  w_X9_at 5 (M (1, b, 6) 10) 0 M N (fun zr1 zM2 zN3 => ((a1 ≤ ((zM2 (1, b, 6) 10) + 1) → post zr1 (am_u zM2 (1, b, 6) 10 0) zN3) ∧ (¬ a1 ≤ ((zM2 (1, b, 6) 10) + 1) → post zr1 (am_u zM2 (1, b, 6) 10 ((zM2 (1, b, 6) 10) + 1)) zN3)))
set_option maxRecDepth 10000 in
theorem k_X6_drawLot {d : Nat} {dm : List am_C} {b : Nat} (h0 : am_d0 dm) (h1b : am_d1 dm b) (h2 : am_d2 dm) {a1 : Int32} {M : am_I} {N : am_N} {post : Int32 → am_I → am_N → Prop} (h : w_X6_drawLot b a1 M N post) : jg (d + 2) mX6_drawLot dm 0 [(0, .inr (.inr (1, b, 6))), (1, .inl a1)] [] M N (am_pi post) := by
  refine j_aload_n 0 dX6_drawLot_0 rfl ?_
  refine j_getR (b := (0, 0, 1)) dX6_drawLot_1 fsRX6_34 (h1b 6 (by decide)) rfl rfl ?_
  refine j_getR (b := (2, 5, 0)) dX6_drawLot_4 fsRX6_113 (h0 1 (by decide)) rfl rfl ?_
  refine j_aload_n 0 dX6_drawLot_7 rfl ?_
  refine j_getI dX6_drawLot_8 fsRX6_51 (h1b 6 (by decide)) rfl ?_
  refine j_iconst (v := 0) dX6_drawLot_11 (by decide) ?_
  refine j_invV (As := [.inl (M (1, b, 6) 10), .inl 0]) dX6_drawLot_12 msRX6_72 mbX9_at rfl rfl (Nat.le_of_ble_eq_true rfl) (Nat.le_of_ble_eq_true rfl) (by omega) (h2 5 (by decide) 0 (by decide)) rfl rfl (k_X9_at (d := d + 0) h2 (by decide) h) ?_
  rintro _ zM2 zN3 ⟨zr1, rfl, h⟩
  refine j_istore_n dX6_drawLot_15 (by decide) rfl ?_
  refine j_aload_n 1 dX6_drawLot_16 rfl ?_
  refine j_aload_n 1 dX6_drawLot_17 rfl ?_
  refine j_getI dX6_drawLot_18 fsRX6_51 (h1b 6 (by decide)) rfl ?_
  refine j_iconst (v := 1) dX6_drawLot_21 (by decide) ?_
  refine j_iadd dX6_drawLot_22 ?_
  refine j_iload_n 2 dX6_drawLot_23 rfl ?_
  refine j_icmp_ge (tgt := 36) dX6_drawLot_24 (by decide) (fun hc => ?_) (fun hc => ?_)
  · replace h := h.1 hc
    refine j_iconst (v := 0) dX6_drawLot_36 (by decide) ?_
    refine j_putI dX6_drawLot_37 fwRX6_51 (h1b 6 (by decide)) rfl ?_
    refine j_iload_n 0 dX6_drawLot_40 rfl ?_
    exact j_iret dX6_drawLot_41 rfl ⟨_, rfl, h⟩
  · replace h := h.2 hc
    refine j_aload_n 1 dX6_drawLot_27 rfl ?_
    refine j_getI dX6_drawLot_28 fsRX6_51 (h1b 6 (by decide)) rfl ?_
    refine j_iconst (v := 1) dX6_drawLot_31 (by decide) ?_
    refine j_iadd dX6_drawLot_32 ?_
    refine j_goto (tgt := 37) dX6_drawLot_33 (by decide) ?_
    refine j_putI dX6_drawLot_37 fwRX6_51 (h1b 6 (by decide)) rfl ?_
    refine j_iload_n 0 dX6_drawLot_40 rfl ?_
    exact j_iret dX6_drawLot_41 rfl ⟨_, rfl, h⟩
def w_X6_grow_p2_b (b : Nat) (post : am_I → am_N → Prop) (zk2 : Int32 → am_I → am_N → Prop) (l2 : Int32) (M : am_I) (N : am_N) : Prop :=
  ((64 ≤ l2 → post M N) ∧ (¬ 64 ≤ l2 → w_X6_standsOn b l2 M N (fun zr1 zM2 zN3 => ((zr1 = 0 → zk2 (l2 + 1) zM2 zN3) ∧ (¬ zr1 = 0 → vp_in l2 64 ∧ vp_in l2 64 ∧ w_X11_within (zM2 (1, b, 3) l2.toNatClampNeg) 50 300 zM2 zN3 (fun zr4 zM5 zN6 => ((zr4 = 0 → vp_in l2 64 ∧ zk2 (l2 + 1) (am_u zM5 (1, b, 7) l2.toNatClampNeg ((zM2 (1, b, 7) l2.toNatClampNeg) + 1)) zN6) ∧ (¬ zr4 = 0 → vp_in l2 64 ∧ zk2 (l2 + 1) (am_u zM5 (1, b, 7) l2.toNatClampNeg ((zM2 (1, b, 7) l2.toNatClampNeg) + 2)) zN6))))))))
noncomputable def w_X6_grow_p2 (b : Nat) (post : am_I → am_N → Prop) (n : Nat) : Int32 → am_I → am_N → Prop :=
  Nat.rec (motive := fun _ => Int32 → am_I → am_N → Prop) (fun _ _ _ => False) (fun _ zk => w_X6_grow_p2_b b post zk) n
theorem w_X6_grow_p2_s (b : Nat) (post : am_I → am_N → Prop) (n : Nat) (l2 : Int32) (M : am_I) (N : am_N) : w_X6_grow_p2 b post (n + 1) l2 M N = w_X6_grow_p2_b b post (w_X6_grow_p2 b post n) l2 M N := rfl
set_option maxRecDepth 10000 in
theorem k_X6_grow_p2 {d : Nat} {dm : List am_C} {b : Nat} (h1b : am_d1 dm b) {post : am_I → am_N → Prop} : ∀ (n : Nat) (l2 : Int32) (M : am_I) (N : am_N), w_X6_grow_p2 b post n l2 M N → jg (d + 3) mX6_grow dm 2 [(0, .inr (.inr (1, b, 6))), (1, .inr (.inr (1, b, 1))), (2, .inl l2)] [] M N (am_pv post) := by
  intro n
  induction n with
  | zero => intro l2 M N h; exact h.elim
  | succ n zih =>
    intro l2 M N h
    replace h : w_X6_grow_p2_b b post (w_X6_grow_p2 b post n) l2 M N := h
    refine j_iload_n 2 dX6_grow_2 rfl ?_
    refine j_bipush (v := 64) dX6_grow_3 (by decide) ?_
    refine j_icmp_ge (tgt := 53) dX6_grow_5 (by decide) (fun hc => ?_) (fun hc => ?_)
    · replace h := h.1 hc
      exact j_vret dX6_grow_53 rfl ⟨rfl, h⟩
    · replace h := h.2 hc
      refine j_aload_n 0 dX6_grow_8 rfl ?_
      refine j_iload_n 2 dX6_grow_9 rfl ?_
      refine j_invV (As := [.inl l2]) dX6_grow_10 msRX6_63 mbX6_standsOn rfl rfl (Nat.le_of_ble_eq_true rfl) (Nat.le_of_ble_eq_true rfl) (by omega) (h1b 6 (by decide)) rfl rfl (k_X6_standsOn (d := d + 0) h1b h) ?_
      rintro _ zM2 zN3 ⟨zr1, rfl, h⟩
      refine j_if_eq (tgt := 47) dX6_grow_13 (by decide) (fun hc => ?_) (fun hc => ?_)
      · replace h := h.1 hc
        refine j_iinc 2 dX6_grow_47 rfl rfl (by decide) rfl ?_
        refine j_goto (tgt := 2) dX6_grow_50 (by decide) ?_
        refine j_sub [1, 2, 0] rfl ?_
        exact zih _ _ _ h
      · replace h := h.2 hc
        refine j_aload_n 0 dX6_grow_16 rfl ?_
        refine j_getR (b := (1, b, 7)) dX6_grow_17 fsRX6_9 (h1b 6 (by decide)) rfl rfl ?_
        refine j_iload_n 2 dX6_grow_20 rfl ?_
        refine j_dup2 dX6_grow_21 rfl rfl ?_
        obtain ⟨hq, h⟩ := h
        refine j_iald dX6_grow_22 (h1b 7 (by decide)) rfl hq ?_
        refine j_aload_n 1 dX6_grow_23 rfl ?_
        refine j_getR (b := (1, b, 3)) dX6_grow_24 fsRX6_97 (h1b 1 (by decide)) rfl rfl ?_
        refine j_iload_n 2 dX6_grow_27 rfl ?_
        obtain ⟨hq, h⟩ := h
        refine j_iald dX6_grow_28 (h1b 3 (by decide)) rfl hq ?_
        refine j_bipush (v := 50) dX6_grow_29 (by decide) ?_
        refine j_sipush (v := 300) dX6_grow_31 (by decide) ?_
        refine j_invS (As := [.inl (zM2 (1, b, 3) l2.toNatClampNeg), .inl 50, .inl 300]) dX6_grow_34 msRX6_86 mbX11_within rfl rfl (Nat.le_of_ble_eq_true rfl) (Nat.le_of_ble_eq_true rfl) (by omega) (k_X11_within (d := d + 1)  h) ?_
        rintro _ zM5 zN6 ⟨zr4, rfl, h⟩
        refine j_if_eq (tgt := 44) dX6_grow_37 (by decide) (fun hc => ?_) (fun hc => ?_)
        · replace h := h.1 hc
          refine j_iconst (v := 1) dX6_grow_44 (by decide) ?_
          refine j_iadd dX6_grow_45 ?_
          obtain ⟨hq, h⟩ := h
          refine j_iast dX6_grow_46 (h1b 7 (by decide)) rfl hq ?_
          refine j_iinc 2 dX6_grow_47 rfl rfl (by decide) rfl ?_
          refine j_goto (tgt := 2) dX6_grow_50 (by decide) ?_
          refine j_sub [1, 2, 0] rfl ?_
          exact zih _ _ _ h
        · replace h := h.2 hc
          refine j_iconst (v := 2) dX6_grow_40 (by decide) ?_
          refine j_goto (tgt := 45) dX6_grow_41 (by decide) ?_
          refine j_iadd dX6_grow_45 ?_
          obtain ⟨hq, h⟩ := h
          refine j_iast dX6_grow_46 (h1b 7 (by decide)) rfl hq ?_
          refine j_iinc 2 dX6_grow_47 rfl rfl (by decide) rfl ?_
          refine j_goto (tgt := 2) dX6_grow_50 (by decide) ?_
          refine j_sub [1, 2, 0] rfl ?_
          exact zih _ _ _ h
def w_X6_grow (b : Nat) (M : am_I) (N : am_N) (post : am_I → am_N → Prop) : Prop :=
  ∃ n, w_X6_grow_p2 b post n 0 M N
set_option maxRecDepth 10000 in
theorem k_X6_grow {d : Nat} {dm : List am_C} {b : Nat} (h1b : am_d1 dm b) {M : am_I} {N : am_N} {post : am_I → am_N → Prop} (h : w_X6_grow b M N post) : jg (d + 3) mX6_grow dm 0 [(0, .inr (.inr (1, b, 6))), (1, .inr (.inr (1, b, 1)))] [] M N (am_pv post) := by
  refine j_iconst (v := 0) dX6_grow_0 (by decide) ?_
  refine j_istore_n dX6_grow_1 (by decide) rfl ?_
  refine j_sub [1, 2, 0] rfl ?_
  obtain ⟨n, h⟩ := h
  exact k_X6_grow_p2 h1b n _ _ _ h
def w_X6_allGot_p4_b (b : Nat) (post : Int32 → am_I → am_N → Prop) (zk4 : Int32 → Int32 → am_I → am_N → Prop) (l1 : Int32) (l2 : Int32) (M : am_I) (N : am_N) : Prop :=
  ((64 ≤ l2 → post l1 M N) ∧ (¬ 64 ≤ l2 → w_X6_standsOn b l2 M N (fun zr1 zM2 zN3 => ((zr1 = 0 → zk4 l1 (l2 + 1) zM2 zN3) ∧ (¬ zr1 = 0 → vp_in l2 64 ∧ ∀ zv4 : Int32, zv4 = l1 + (zM2 (1, b, 9) l2.toNatClampNeg) → zk4 zv4 (l2 + 1) zM2 zN3)))))
noncomputable def w_X6_allGot_p4 (b : Nat) (post : Int32 → am_I → am_N → Prop) (n : Nat) : Int32 → Int32 → am_I → am_N → Prop :=
  Nat.rec (motive := fun _ => Int32 → Int32 → am_I → am_N → Prop) (fun _ _ _ _ => False) (fun _ zk => w_X6_allGot_p4_b b post zk) n
theorem w_X6_allGot_p4_s (b : Nat) (post : Int32 → am_I → am_N → Prop) (n : Nat) (l1 : Int32) (l2 : Int32) (M : am_I) (N : am_N) : w_X6_allGot_p4 b post (n + 1) l1 l2 M N = w_X6_allGot_p4_b b post (w_X6_allGot_p4 b post n) l1 l2 M N := rfl
set_option maxRecDepth 10000 in
theorem k_X6_allGot_p4 {d : Nat} {dm : List am_C} {b : Nat} (h1b : am_d1 dm b) {post : Int32 → am_I → am_N → Prop} : ∀ (n : Nat) (l1 : Int32) (l2 : Int32) (M : am_I) (N : am_N), w_X6_allGot_p4 b post n l1 l2 M N → jg (d + 3) mX6_allGot dm 4 [(0, .inr (.inr (1, b, 6))), (1, .inl l1), (2, .inl l2)] [] M N (am_pi post) := by
  intro n
  induction n with
  | zero => intro l1 l2 M N h; exact h.elim
  | succ n zih =>
    intro l1 l2 M N h
    replace h : w_X6_allGot_p4_b b post (w_X6_allGot_p4 b post n) l1 l2 M N := h
    refine j_iload_n 2 dX6_allGot_4 rfl ?_
    refine j_bipush (v := 64) dX6_allGot_5 (by decide) ?_
    refine j_icmp_ge (tgt := 33) dX6_allGot_7 (by decide) (fun hc => ?_) (fun hc => ?_)
    · replace h := h.1 hc
      refine j_iload_n 1 dX6_allGot_33 rfl ?_
      exact j_iret dX6_allGot_34 rfl ⟨_, rfl, h⟩
    · replace h := h.2 hc
      refine j_aload_n 0 dX6_allGot_10 rfl ?_
      refine j_iload_n 2 dX6_allGot_11 rfl ?_
      refine j_invV (As := [.inl l2]) dX6_allGot_12 msRX6_63 mbX6_standsOn rfl rfl (Nat.le_of_ble_eq_true rfl) (Nat.le_of_ble_eq_true rfl) (by omega) (h1b 6 (by decide)) rfl rfl (k_X6_standsOn (d := d + 0) h1b h) ?_
      rintro _ zM2 zN3 ⟨zr1, rfl, h⟩
      refine j_if_eq (tgt := 27) dX6_allGot_15 (by decide) (fun hc => ?_) (fun hc => ?_)
      · replace h := h.1 hc
        refine j_iinc 2 dX6_allGot_27 rfl rfl (by decide) rfl ?_
        refine j_goto (tgt := 4) dX6_allGot_30 (by decide) ?_
        refine j_sub [1, 2, 0] rfl ?_
        exact zih _ _ _ _ h
      · replace h := h.2 hc
        refine j_iload_n 1 dX6_allGot_18 rfl ?_
        refine j_aload_n 0 dX6_allGot_19 rfl ?_
        refine j_getR (b := (1, b, 9)) dX6_allGot_20 fsRX6_18 (h1b 6 (by decide)) rfl rfl ?_
        refine j_iload_n 2 dX6_allGot_23 rfl ?_
        obtain ⟨hq, h⟩ := h
        refine j_iald dX6_allGot_24 (h1b 9 (by decide)) rfl hq ?_
        refine j_iadd dX6_allGot_25 ?_
        refine j_topi (fun zv4 hzv4 => ?_)
        replace h := h zv4 hzv4
        refine j_istore_n dX6_allGot_26 (by decide) rfl ?_
        refine j_iinc 2 dX6_allGot_27 rfl rfl (by decide) rfl ?_
        refine j_goto (tgt := 4) dX6_allGot_30 (by decide) ?_
        refine j_sub [2, 1, 0] rfl ?_
        exact zih _ _ _ _ h
def w_X6_allGot (b : Nat) (M : am_I) (N : am_N) (post : Int32 → am_I → am_N → Prop) : Prop :=
  ∃ n, w_X6_allGot_p4 b post n 0 0 M N
set_option maxRecDepth 10000 in
theorem k_X6_allGot {d : Nat} {dm : List am_C} {b : Nat} (h1b : am_d1 dm b) {M : am_I} {N : am_N} {post : Int32 → am_I → am_N → Prop} (h : w_X6_allGot b M N post) : jg (d + 3) mX6_allGot dm 0 [(0, .inr (.inr (1, b, 6)))] [] M N (am_pi post) := by
  refine j_iconst (v := 0) dX6_allGot_0 (by decide) ?_
  refine j_istore_n dX6_allGot_1 (by decide) rfl ?_
  refine j_iconst (v := 0) dX6_allGot_2 (by decide) ?_
  refine j_istore_n dX6_allGot_3 (by decide) rfl ?_
  refine j_sub [2, 1, 0] rfl ?_
  obtain ⟨n, h⟩ := h
  exact k_X6_allGot_p4 h1b n _ _ _ _ h
def w_X6_see_p82_b (b : Nat) (post : am_I → am_N → Prop) (zk82 : Int32 → Int64 → Int32 → am_I → am_N → Prop) (l1 : Int32) (l3 : Int64) (l5 : Int32) (M : am_I) (N : am_N) : Prop :=
  ((5 ≤ l5 → post M N) ∧ (¬ 5 ≤ l5 → vp_in l5 5 ∧ ¬ l3 = 0 ∧ vp_in ((l1 * 5) + l5) 320 ∧ zk82 l1 l3 (l5 + 1) (am_u M (1, b, 12) ((l1 * 5) + l5).toNatClampNeg ((((N (1, b, 13) l5.toNatClampNeg) * 1000000000) / l3).toInt32)) N))
noncomputable def w_X6_see_p82 (b : Nat) (post : am_I → am_N → Prop) (n : Nat) : Int32 → Int64 → Int32 → am_I → am_N → Prop :=
  Nat.rec (motive := fun _ => Int32 → Int64 → Int32 → am_I → am_N → Prop) (fun _ _ _ _ _ => False) (fun _ zk => w_X6_see_p82_b b post zk) n
theorem w_X6_see_p82_s (b : Nat) (post : am_I → am_N → Prop) (n : Nat) (l1 : Int32) (l3 : Int64) (l5 : Int32) (M : am_I) (N : am_N) : w_X6_see_p82 b post (n + 1) l1 l3 l5 M N = w_X6_see_p82_b b post (w_X6_see_p82 b post n) l1 l3 l5 M N := rfl
set_option maxRecDepth 10000 in
theorem k_X6_see_p82 {d : Nat} {dm : List am_C} {b : Nat} (h0 : am_d0 dm) (h1b : am_d1 dm b) (h2 : am_d2 dm) {post : am_I → am_N → Prop} : ∀ (n : Nat) (l1 : Int32) (l3 : Int64) (l5 : Int32) (M : am_I) (N : am_N), w_X6_see_p82 b post n l1 l3 l5 M N → jg (d + 3) mX6_see dm 82 [(0, .inr (.inr (1, b, 6))), (1, .inl l1), (3, .inr (.inl l3)), (5, .inl l5)] [] M N (am_pv post) := by
  intro n
  induction n with
  | zero => intro l1 l3 l5 M N h; exact h.elim
  | succ n zih =>
    intro l1 l3 l5 M N h
    replace h : w_X6_see_p82_b b post (w_X6_see_p82 b post n) l1 l3 l5 M N := h
    refine j_iload 3 dX6_see_82 rfl ?_
    refine j_iconst (v := 5) dX6_see_84 (by decide) ?_
    refine j_icmp_ge (tgt := 119) dX6_see_85 (by decide) (fun hc => ?_) (fun hc => ?_)
    · replace h := h.1 hc
      exact j_vret dX6_see_119 rfl ⟨rfl, h⟩
    · replace h := h.2 hc
      refine j_aload_n 0 dX6_see_88 rfl ?_
      refine j_getR (b := (1, b, 12)) dX6_see_89 fsRX6_27 (h1b 6 (by decide)) rfl rfl ?_
      refine j_iload_n 1 dX6_see_92 rfl ?_
      refine j_iconst (v := 5) dX6_see_93 (by decide) ?_
      refine j_imul dX6_see_94 ?_
      refine j_iload 3 dX6_see_95 rfl ?_
      refine j_iadd dX6_see_97 ?_
      refine j_aload_n 0 dX6_see_98 rfl ?_
      refine j_getR (b := (1, b, 13)) dX6_see_99 fsRX6_30 (h1b 6 (by decide)) rfl rfl ?_
      refine j_iload 3 dX6_see_102 rfl ?_
      obtain ⟨hq, h⟩ := h
      refine j_lald dX6_see_104 (h1b 13 (by decide)) rfl hq ?_
      refine j_ldc2 (v := 1000000000) dX6_see_105 cw_615 ?_
      refine j_lmul dX6_see_108 ?_
      refine j_lload_n 2 dX6_see_109 rfl ?_
      obtain ⟨hq, h⟩ := h
      refine j_ldiv dX6_see_110 hq ?_
      refine j_l2i dX6_see_111 ?_
      obtain ⟨hq, h⟩ := h
      refine j_iast dX6_see_112 (h1b 12 (by decide)) rfl hq ?_
      refine j_iinc 3 dX6_see_113 rfl rfl (by decide) rfl ?_
      refine j_goto (tgt := 82) dX6_see_116 (by decide) ?_
      refine j_sub [1, 2, 3, 0] rfl ?_
      exact zih _ _ _ _ _ h
def w_X6_see_p24_b (b : Nat) (post : am_I → am_N → Prop) (zk24 : Int32 → Int32 → Int64 → Int32 → am_I → am_N → Prop) (l1 : Int32) (l2 : Int32) (l3 : Int64) (l5 : Int32) (M : am_I) (N : am_N) : Prop :=
  ((5 ≤ l5 → ((0 < l3 → ∃ n, w_X6_see_p82 b post n l1 l3 0 M N) ∧ (¬ 0 < l3 → post M N))) ∧ (¬ 5 ≤ l5 → vp_in ((l1 * 5) + l5) 320 ∧ w_X6_weigh b l5 ((M (1, b, 12) ((l1 * 5) + l5).toNatClampNeg).toInt64) l2 M N (fun zr1 zM2 zN3 => vp_in l5 5 ∧ vp_in l5 5 ∧ ∀ zv4 : Int64, zv4 = l3 + ((am_ul zN3 (1, b, 13) l5.toNatClampNeg zr1) (1, b, 13) l5.toNatClampNeg) → zk24 l1 l2 zv4 (l5 + 1) zM2 (am_ul zN3 (1, b, 13) l5.toNatClampNeg zr1))))
noncomputable def w_X6_see_p24 (b : Nat) (post : am_I → am_N → Prop) (n : Nat) : Int32 → Int32 → Int64 → Int32 → am_I → am_N → Prop :=
  Nat.rec (motive := fun _ => Int32 → Int32 → Int64 → Int32 → am_I → am_N → Prop) (fun _ _ _ _ _ _ => False) (fun _ zk => w_X6_see_p24_b b post zk) n
theorem w_X6_see_p24_s (b : Nat) (post : am_I → am_N → Prop) (n : Nat) (l1 : Int32) (l2 : Int32) (l3 : Int64) (l5 : Int32) (M : am_I) (N : am_N) : w_X6_see_p24 b post (n + 1) l1 l2 l3 l5 M N = w_X6_see_p24_b b post (w_X6_see_p24 b post n) l1 l2 l3 l5 M N := rfl
set_option maxRecDepth 10000 in
theorem k_X6_see_p24 {d : Nat} {dm : List am_C} {b : Nat} (h0 : am_d0 dm) (h1b : am_d1 dm b) (h2 : am_d2 dm) {post : am_I → am_N → Prop} : ∀ (n : Nat) (l1 : Int32) (l2 : Int32) (l3 : Int64) (l5 : Int32) (M : am_I) (N : am_N), w_X6_see_p24 b post n l1 l2 l3 l5 M N → jg (d + 3) mX6_see dm 24 [(0, .inr (.inr (1, b, 6))), (1, .inl l1), (2, .inl l2), (3, .inr (.inl l3)), (5, .inl l5)] [] M N (am_pv post) := by
  intro n
  induction n with
  | zero => intro l1 l2 l3 l5 M N h; exact h.elim
  | succ n zih =>
    intro l1 l2 l3 l5 M N h
    replace h : w_X6_see_p24_b b post (w_X6_see_p24 b post n) l1 l2 l3 l5 M N := h
    refine j_iload 4 dX6_see_24 rfl ?_
    refine j_iconst (v := 5) dX6_see_26 (by decide) ?_
    refine j_icmp_ge (tgt := 72) dX6_see_27 (by decide) (fun hc => ?_) (fun hc => ?_)
    · replace h := h.1 hc
      refine j_lload_n 3 dX6_see_72 rfl ?_
      refine j_lconst (v := 0) dX6_see_73 (by decide) ?_
      refine j_lcmp_gt (tgt := 79) dX6_see_74 dX6_see_75 (by decide) (fun hc => ?_) (fun hc => ?_)
      · replace h := h.1 hc
        refine j_iconst (v := 0) dX6_see_79 (by decide) ?_
        refine j_istore dX6_see_80 (by decide) rfl ?_
        refine j_sub [1, 2, 4, 0] rfl ?_
        obtain ⟨n, h⟩ := h
        exact k_X6_see_p82 h0 h1b h2 n _ _ _ _ _ h
      · replace h := h.2 hc
        exact j_vret dX6_see_78 rfl ⟨rfl, h⟩
    · replace h := h.2 hc
      refine j_aload_n 0 dX6_see_30 rfl ?_
      refine j_getR (b := (1, b, 13)) dX6_see_31 fsRX6_30 (h1b 6 (by decide)) rfl rfl ?_
      refine j_iload 4 dX6_see_34 rfl ?_
      refine j_aload_n 0 dX6_see_36 rfl ?_
      refine j_iload 4 dX6_see_37 rfl ?_
      refine j_aload_n 0 dX6_see_39 rfl ?_
      refine j_getR (b := (1, b, 12)) dX6_see_40 fsRX6_27 (h1b 6 (by decide)) rfl rfl ?_
      refine j_iload_n 1 dX6_see_43 rfl ?_
      refine j_iconst (v := 5) dX6_see_44 (by decide) ?_
      refine j_imul dX6_see_45 ?_
      refine j_iload 4 dX6_see_46 rfl ?_
      refine j_iadd dX6_see_48 ?_
      obtain ⟨hq, h⟩ := h
      refine j_iald dX6_see_49 (h1b 12 (by decide)) rfl hq ?_
      refine j_i2l dX6_see_50 ?_
      refine j_iload_n 2 dX6_see_51 rfl ?_
      refine j_invV (As := [.inl l5, .inr (.inl ((M (1, b, 12) ((l1 * 5) + l5).toNatClampNeg).toInt64)), .inl l2]) dX6_see_52 msRX6_80 mbX6_weigh rfl rfl (Nat.le_of_ble_eq_true rfl) (Nat.le_of_ble_eq_true rfl) (by omega) (h1b 6 (by decide)) rfl rfl (k_X6_weigh (d := d + 0) h0 h1b h2 h) ?_
      rintro _ zM2 zN3 ⟨zr1, rfl, h⟩
      obtain ⟨hq, h⟩ := h
      refine j_last dX6_see_55 (h1b 13 (by decide)) rfl hq ?_
      refine j_lload_n 3 dX6_see_56 rfl ?_
      refine j_aload_n 0 dX6_see_57 rfl ?_
      refine j_getR (b := (1, b, 13)) dX6_see_58 fsRX6_30 (h1b 6 (by decide)) rfl rfl ?_
      refine j_iload 4 dX6_see_61 rfl ?_
      obtain ⟨hq, h⟩ := h
      refine j_lald dX6_see_63 (h1b 13 (by decide)) rfl hq ?_
      refine j_ladd dX6_see_64 ?_
      refine j_topl (fun zv4 hzv4 => ?_)
      replace h := h zv4 hzv4
      refine j_lstore_n dX6_see_65 (by decide) rfl ?_
      refine j_iinc 4 dX6_see_66 rfl rfl (by decide) rfl ?_
      refine j_goto (tgt := 24) dX6_see_69 (by decide) ?_
      refine j_sub [2, 3, 4, 1, 0] rfl ?_
      exact zih _ _ _ _ _ _ h
def w_X6_see (b : Nat) (a1 : Int32) (a2 : Int32) (M : am_I) (N : am_N) (post : am_I → am_N → Prop) : Prop :=
  w_X6_standsOn b a1 M N (fun zr1 zM2 zN3 => ((¬ zr1 = 0 → vp_in a1 64 ∧ vp_in a1 64 ∧ ∃ n, w_X6_see_p24 b post n a1 a2 0 0 (am_u zM2 (1, b, 8) a1.toNatClampNeg ((zM2 (1, b, 8) a1.toNatClampNeg) + 1)) zN3) ∧ (zr1 = 0 → post zM2 zN3)))
set_option maxRecDepth 10000 in
theorem k_X6_see {d : Nat} {dm : List am_C} {b : Nat} (h0 : am_d0 dm) (h1b : am_d1 dm b) (h2 : am_d2 dm) {a1 : Int32} {a2 : Int32} {M : am_I} {N : am_N} {post : am_I → am_N → Prop} (h : w_X6_see b a1 a2 M N post) : jg (d + 3) mX6_see dm 0 [(0, .inr (.inr (1, b, 6))), (1, .inl a1), (2, .inl a2)] [] M N (am_pv post) := by
  refine j_aload_n 0 dX6_see_0 rfl ?_
  refine j_iload_n 1 dX6_see_1 rfl ?_
  refine j_invV (As := [.inl a1]) dX6_see_2 msRX6_63 mbX6_standsOn rfl rfl (Nat.le_of_ble_eq_true rfl) (Nat.le_of_ble_eq_true rfl) (by omega) (h1b 6 (by decide)) rfl rfl (k_X6_standsOn (d := d + 0) h1b h) ?_
  rintro _ zM2 zN3 ⟨zr1, rfl, h⟩
  refine j_if_ne (tgt := 9) dX6_see_5 (by decide) (fun hc => ?_) (fun hc => ?_)
  · replace h := h.1 hc
    refine j_aload_n 0 dX6_see_9 rfl ?_
    refine j_getR (b := (1, b, 8)) dX6_see_10 fsRX6_15 (h1b 6 (by decide)) rfl rfl ?_
    refine j_iload_n 1 dX6_see_13 rfl ?_
    refine j_dup2 dX6_see_14 rfl rfl ?_
    obtain ⟨hq, h⟩ := h
    refine j_iald dX6_see_15 (h1b 8 (by decide)) rfl hq ?_
    refine j_iconst (v := 1) dX6_see_16 (by decide) ?_
    refine j_iadd dX6_see_17 ?_
    obtain ⟨hq, h⟩ := h
    refine j_iast dX6_see_18 (h1b 8 (by decide)) rfl hq ?_
    refine j_lconst (v := 0) dX6_see_19 (by decide) ?_
    refine j_lstore_n dX6_see_20 (by decide) rfl ?_
    refine j_iconst (v := 0) dX6_see_21 (by decide) ?_
    refine j_istore dX6_see_22 (by decide) rfl ?_
    refine j_sub [2, 3, 4, 1, 0] rfl ?_
    obtain ⟨n, h⟩ := h
    exact k_X6_see_p24 h0 h1b h2 n _ _ _ _ _ _ h
  · replace h := h.2 hc
    exact j_vret dX6_see_8 rfl ⟨rfl, h⟩
def w_X6_spread_p54_b (b : Nat) (post : am_I → am_N → Prop) (zk20 : Int32 → Int32 → Int64 → Int32 → am_I → am_N → Prop) (zk54 : Int32 → Int32 → Int64 → Int32 → Int32 → am_I → am_N → Prop) (l1 : Int32) (l2 : Int32) (l3 : Int64) (l5 : Int32) (l6 : Int32) (M : am_I) (N : am_N) : Prop :=
  ((4 ≤ l6 → zk20 l1 l2 l3 (l5 + 1) M N) ∧ (¬ 4 ≤ l6 → w_X11_beside l5 l6 M N (fun zr1 zM2 zN3 => ((zr1 < 0 → zk54 l1 l2 l3 l5 (l6 + 1) zM2 zN3) ∧ (¬ zr1 < 0 → w_X11_bit zr1 zM2 zN3 (fun zr4 zM5 zN6 => (((l3 &&& zr4) = 0 → zk54 l1 l2 l3 l5 (l6 + 1) zM5 zN6) ∧ (¬ (l3 &&& zr4) = 0 → w_X6_drawLot b l2 zM5 zN6 (fun zr7 zM8 zN9 => ((l1 ≤ zr7 → zk54 l1 l2 l3 l5 (l6 + 1) zM8 zN9) ∧ (¬ l1 ≤ zr7 → w_X11_bit l5 zM8 zN9 (fun zr10 zM11 zN12 => zk54 l1 l2 l3 l5 (l6 + 1) zM11 (am_ul zN12 (1, b, 6) 9 ((zN9 (1, b, 6) 9) ||| zr10))))))))))))))
noncomputable def w_X6_spread_p54 (b : Nat) (post : am_I → am_N → Prop) (zk20 : Int32 → Int32 → Int64 → Int32 → am_I → am_N → Prop) (n : Nat) : Int32 → Int32 → Int64 → Int32 → Int32 → am_I → am_N → Prop :=
  Nat.rec (motive := fun _ => Int32 → Int32 → Int64 → Int32 → Int32 → am_I → am_N → Prop) (fun _ _ _ _ _ _ _ => False) (fun _ zk => w_X6_spread_p54_b b post zk20 zk) n
theorem w_X6_spread_p54_s (b : Nat) (post : am_I → am_N → Prop) (zk20 : Int32 → Int32 → Int64 → Int32 → am_I → am_N → Prop) (n : Nat) (l1 : Int32) (l2 : Int32) (l3 : Int64) (l5 : Int32) (l6 : Int32) (M : am_I) (N : am_N) : w_X6_spread_p54 b post zk20 (n + 1) l1 l2 l3 l5 l6 M N = w_X6_spread_p54_b b post zk20 (w_X6_spread_p54 b post zk20 n) l1 l2 l3 l5 l6 M N := rfl
set_option maxRecDepth 10000 in
theorem k_X6_spread_p54 {d : Nat} {dm : List am_C} {b : Nat} (h0 : am_d0 dm) (h1b : am_d1 dm b) (h2 : am_d2 dm) {post : am_I → am_N → Prop} {zk20 : Int32 → Int32 → Int64 → Int32 → am_I → am_N → Prop} (zhk20 : ∀ (l1 : Int32) (l2 : Int32) (l3 : Int64) (l5 : Int32) (M : am_I) (N : am_N), zk20 l1 l2 l3 l5 M N → jg (d + 3) mX6_spread dm 20 [(0, .inr (.inr (1, b, 6))), (1, .inl l1), (2, .inl l2), (3, .inr (.inl l3)), (5, .inl l5)] [] M N (am_pv post)) : ∀ (n : Nat) (l1 : Int32) (l2 : Int32) (l3 : Int64) (l5 : Int32) (l6 : Int32) (M : am_I) (N : am_N), w_X6_spread_p54 b post zk20 n l1 l2 l3 l5 l6 M N → jg (d + 3) mX6_spread dm 54 [(0, .inr (.inr (1, b, 6))), (1, .inl l1), (2, .inl l2), (3, .inr (.inl l3)), (5, .inl l5), (6, .inl l6)] [] M N (am_pv post) := by
  intro n
  induction n with
  | zero => intro l1 l2 l3 l5 l6 M N h; exact h.elim
  | succ n zih =>
    intro l1 l2 l3 l5 l6 M N h
    replace h : w_X6_spread_p54_b b post zk20 (w_X6_spread_p54 b post zk20 n) l1 l2 l3 l5 l6 M N := h
    refine j_iload 5 dX6_spread_54 rfl ?_
    refine j_iconst (v := 4) dX6_spread_56 (by decide) ?_
    refine j_icmp_ge (tgt := 115) dX6_spread_57 (by decide) (fun hc => ?_) (fun hc => ?_)
    · replace h := h.1 hc
      refine j_iinc 4 dX6_spread_115 rfl rfl (by decide) rfl ?_
      refine j_goto (tgt := 20) dX6_spread_118 (by decide) ?_
      refine j_sub [1, 2, 3, 4, 0] rfl ?_
      exact zhk20 _ _ _ _ _ _ h
    · replace h := h.2 hc
      refine j_iload 4 dX6_spread_60 rfl ?_
      refine j_iload 5 dX6_spread_62 rfl ?_
      refine j_invS (As := [.inl l5, .inl l6]) dX6_spread_64 msRX6_106 mbX11_beside rfl rfl (Nat.le_of_ble_eq_true rfl) (Nat.le_of_ble_eq_true rfl) (by omega) (k_X11_beside (d := d + 1)  h) ?_
      rintro _ zM2 zN3 ⟨zr1, rfl, h⟩
      refine j_istore dX6_spread_67 (by decide) rfl ?_
      refine j_iload 0 dX6_spread_69 rfl ?_
      refine j_if_lt (tgt := 109) dX6_spread_71 (by decide) (fun hc => ?_) (fun hc => ?_)
      · replace h := h.1 hc
        refine j_iinc 6 dX6_spread_109 rfl rfl (by decide) rfl ?_
        refine j_goto (tgt := 54) dX6_spread_112 (by decide) ?_
        refine j_sub [2, 3, 4, 5, 6, 0] rfl ?_
        exact zih _ _ _ _ _ _ _ h
      · replace h := h.2 hc
        refine j_lload_n 4 dX6_spread_74 rfl ?_
        refine j_iload 0 dX6_spread_75 rfl ?_
        refine j_invS (As := [.inl zr1]) dX6_spread_77 msRX6_59 mbX11_bit rfl rfl (Nat.le_of_ble_eq_true rfl) (Nat.le_of_ble_eq_true rfl) (by omega) (k_X11_bit (d := d + 1)  h) ?_
        rintro _ zM5 zN6 ⟨zr4, rfl, h⟩
        refine j_land dX6_spread_80 ?_
        refine j_lconst (v := 0) dX6_spread_81 (by decide) ?_
        refine j_lcmp_eq (tgt := 109) dX6_spread_82 dX6_spread_83 (by decide) (fun hc => ?_) (fun hc => ?_)
        · replace h := h.1 hc
          refine j_iinc 6 dX6_spread_109 rfl rfl (by decide) rfl ?_
          refine j_goto (tgt := 54) dX6_spread_112 (by decide) ?_
          refine j_sub [2, 3, 4, 5, 6, 0] rfl ?_
          exact zih _ _ _ _ _ _ _ h
        · replace h := h.2 hc
          refine j_aload_n 1 dX6_spread_86 rfl ?_
          refine j_iload_n 3 dX6_spread_87 rfl ?_
          refine j_invV (As := [.inl l2]) dX6_spread_88 msRX6_109 mbX6_drawLot rfl rfl (Nat.le_of_ble_eq_true rfl) (Nat.le_of_ble_eq_true rfl) (by omega) (h1b 6 (by decide)) rfl rfl (k_X6_drawLot (d := d + 0) h0 h1b h2 h) ?_
          rintro _ zM8 zN9 ⟨zr7, rfl, h⟩
          refine j_iload_n 2 dX6_spread_91 rfl ?_
          refine j_icmp_ge (tgt := 109) dX6_spread_92 (by decide) (fun hc => ?_) (fun hc => ?_)
          · replace h := h.1 hc
            refine j_iinc 6 dX6_spread_109 rfl rfl (by decide) rfl ?_
            refine j_goto (tgt := 54) dX6_spread_112 (by decide) ?_
            refine j_sub [2, 3, 4, 5, 6, 0] rfl ?_
            exact zih _ _ _ _ _ _ _ h
          · replace h := h.2 hc
            refine j_aload_n 1 dX6_spread_95 rfl ?_
            refine j_dup dX6_spread_96 rfl ?_
            refine j_getL dX6_spread_97 fsRX6_48 (h1b 6 (by decide)) rfl ?_
            refine j_iload 5 dX6_spread_100 rfl ?_
            refine j_invS (As := [.inl l5]) dX6_spread_102 msRX6_59 mbX11_bit rfl rfl (Nat.le_of_ble_eq_true rfl) (Nat.le_of_ble_eq_true rfl) (by omega) (k_X11_bit (d := d + 1)  h) ?_
            rintro _ zM11 zN12 ⟨zr10, rfl, h⟩
            refine j_lor dX6_spread_105 ?_
            refine j_putL dX6_spread_106 fwRX6_48 (h1b 6 (by decide)) rfl ?_
            refine j_iinc 6 dX6_spread_109 rfl rfl (by decide) rfl ?_
            refine j_goto (tgt := 54) dX6_spread_112 (by decide) ?_
            refine j_sub [2, 3, 4, 5, 6, 0] rfl ?_
            exact zih _ _ _ _ _ _ _ h
def w_X6_spread_p20_b (b : Nat) (post : am_I → am_N → Prop) (zk20 : Int32 → Int32 → Int64 → Int32 → am_I → am_N → Prop) (l1 : Int32) (l2 : Int32) (l3 : Int64) (l5 : Int32) (M : am_I) (N : am_N) : Prop :=
  ((64 ≤ l5 → post M N) ∧ (¬ 64 ≤ l5 → w_X11_bit l5 M N (fun zr1 zM2 zN3 => ((¬ (((N (1, b, 6) 8) &&& (l3 ^^^ (-1))) &&& zr1) = 0 → ∃ n, w_X6_spread_p54 b post zk20 n l1 l2 l3 l5 0 zM2 zN3) ∧ ((((N (1, b, 6) 8) &&& (l3 ^^^ (-1))) &&& zr1) = 0 → zk20 l1 l2 l3 (l5 + 1) zM2 zN3)))))
noncomputable def w_X6_spread_p20 (b : Nat) (post : am_I → am_N → Prop) (n : Nat) : Int32 → Int32 → Int64 → Int32 → am_I → am_N → Prop :=
  Nat.rec (motive := fun _ => Int32 → Int32 → Int64 → Int32 → am_I → am_N → Prop) (fun _ _ _ _ _ _ => False) (fun _ zk => w_X6_spread_p20_b b post zk) n
theorem w_X6_spread_p20_s (b : Nat) (post : am_I → am_N → Prop) (n : Nat) (l1 : Int32) (l2 : Int32) (l3 : Int64) (l5 : Int32) (M : am_I) (N : am_N) : w_X6_spread_p20 b post (n + 1) l1 l2 l3 l5 M N = w_X6_spread_p20_b b post (w_X6_spread_p20 b post n) l1 l2 l3 l5 M N := rfl
set_option maxRecDepth 10000 in
theorem k_X6_spread_p20 {d : Nat} {dm : List am_C} {b : Nat} (h0 : am_d0 dm) (h1b : am_d1 dm b) (h2 : am_d2 dm) {post : am_I → am_N → Prop} : ∀ (n : Nat) (l1 : Int32) (l2 : Int32) (l3 : Int64) (l5 : Int32) (M : am_I) (N : am_N), w_X6_spread_p20 b post n l1 l2 l3 l5 M N → jg (d + 3) mX6_spread dm 20 [(0, .inr (.inr (1, b, 6))), (1, .inl l1), (2, .inl l2), (3, .inr (.inl l3)), (5, .inl l5)] [] M N (am_pv post) := by
  intro n
  induction n with
  | zero => intro l1 l2 l3 l5 M N h; exact h.elim
  | succ n zih =>
    intro l1 l2 l3 l5 M N h
    replace h : w_X6_spread_p20_b b post (w_X6_spread_p20 b post n) l1 l2 l3 l5 M N := h
    refine j_iload 4 dX6_spread_20 rfl ?_
    refine j_bipush (v := 64) dX6_spread_22 (by decide) ?_
    refine j_icmp_ge (tgt := 121) dX6_spread_24 (by decide) (fun hc => ?_) (fun hc => ?_)
    · replace h := h.1 hc
      exact j_vret dX6_spread_121 rfl ⟨rfl, h⟩
    · replace h := h.2 hc
      refine j_aload_n 0 dX6_spread_27 rfl ?_
      refine j_getL dX6_spread_28 fsRX6_44 (h1b 6 (by decide)) rfl ?_
      refine j_lload_n 3 dX6_spread_31 rfl ?_
      refine j_ldc2 (v := (-1)) dX6_spread_32 cw_633 ?_
      refine j_lxor dX6_spread_35 ?_
      refine j_land dX6_spread_36 ?_
      refine j_iload 4 dX6_spread_37 rfl ?_
      refine j_invS (As := [.inl l5]) dX6_spread_39 msRX6_59 mbX11_bit rfl rfl (Nat.le_of_ble_eq_true rfl) (Nat.le_of_ble_eq_true rfl) (by omega) (k_X11_bit (d := d + 1)  h) ?_
      rintro _ zM2 zN3 ⟨zr1, rfl, h⟩
      refine j_land dX6_spread_42 ?_
      refine j_lconst (v := 0) dX6_spread_43 (by decide) ?_
      refine j_lcmp_ne (tgt := 51) dX6_spread_44 dX6_spread_45 (by decide) (fun hc => ?_) (fun hc => ?_)
      · replace h := h.1 hc
        refine j_iconst (v := 0) dX6_spread_51 (by decide) ?_
        refine j_istore dX6_spread_52 (by decide) rfl ?_
        refine j_sub [1, 2, 3, 4, 5, 0] rfl ?_
        obtain ⟨n, h⟩ := h
        exact k_X6_spread_p54 h0 h1b h2 zih n _ _ _ _ _ _ _ h
      · replace h := h.2 hc
        refine j_goto (tgt := 115) dX6_spread_48 (by decide) ?_
        refine j_iinc 4 dX6_spread_115 rfl rfl (by decide) rfl ?_
        refine j_goto (tgt := 20) dX6_spread_118 (by decide) ?_
        refine j_sub [1, 2, 3, 4, 0] rfl ?_
        exact zih _ _ _ _ _ _ h
def w_X6_spread (b : Nat) (a1 : Int32) (a2 : Int32) (M : am_I) (N : am_N) (post : am_I → am_N → Prop) : Prop :=
  ∀ zv1 : Int64, zv1 = N (1, b, 6) 9 → ((a2 < 1 → post M N) ∧ (¬ a2 < 1 → ((¬ zv1 = 0 → ∃ n, w_X6_spread_p20 b post n a1 a2 zv1 0 M N) ∧ (zv1 = 0 → post M N))))
set_option maxRecDepth 10000 in
theorem k_X6_spread {d : Nat} {dm : List am_C} {b : Nat} (h0 : am_d0 dm) (h1b : am_d1 dm b) (h2 : am_d2 dm) {a1 : Int32} {a2 : Int32} {M : am_I} {N : am_N} {post : am_I → am_N → Prop} (h : w_X6_spread b a1 a2 M N post) : jg (d + 3) mX6_spread dm 0 [(0, .inr (.inr (1, b, 6))), (1, .inl a1), (2, .inl a2)] [] M N (am_pv post) := by
  refine j_aload_n 0 dX6_spread_0 rfl ?_
  refine j_getL dX6_spread_1 fsRX6_48 (h1b 6 (by decide)) rfl ?_
  refine j_topl (fun zv1 hzv1 => ?_)
  replace h := h zv1 hzv1
  refine j_lstore_n dX6_spread_4 (by decide) rfl ?_
  refine j_iload_n 3 dX6_spread_5 rfl ?_
  refine j_iconst (v := 1) dX6_spread_6 (by decide) ?_
  refine j_icmp_lt (tgt := 16) dX6_spread_7 (by decide) (fun hc => ?_) (fun hc => ?_)
  · replace h := h.1 hc
    exact j_vret dX6_spread_16 rfl ⟨rfl, h⟩
  · replace h := h.2 hc
    refine j_lload_n 0 dX6_spread_10 rfl ?_
    refine j_lconst (v := 0) dX6_spread_11 (by decide) ?_
    refine j_lcmp_ne (tgt := 17) dX6_spread_12 dX6_spread_13 (by decide) (fun hc => ?_) (fun hc => ?_)
    · replace h := h.1 hc
      refine j_iconst (v := 0) dX6_spread_17 (by decide) ?_
      refine j_istore dX6_spread_18 (by decide) rfl ?_
      refine j_sub [2, 3, 4, 1, 0] rfl ?_
      obtain ⟨n, h⟩ := h
      exact k_X6_spread_p20 h0 h1b h2 n _ _ _ _ _ _ h
    · replace h := h.2 hc
      exact j_vret dX6_spread_16 rfl ⟨rfl, h⟩
