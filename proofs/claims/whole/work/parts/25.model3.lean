/-! ===== methods: 25.model3 ===== -/
theorem dX12_ways_0 : decode mX12_ways.2.1 0 = .ok (.iconst 0, 1) := by decide +kernel
theorem dX12_ways_1 : decode mX12_ways.2.1 1 = .ok (.istore 4, 2) := by decide +kernel
theorem dX12_ways_3 : decode mX12_ways.2.1 3 = .ok (.iload 4, 2) := by decide +kernel
theorem dX12_ways_5 : decode mX12_ways.2.1 5 = .ok (.bipush 64, 2) := by decide +kernel
theorem dX12_ways_7 : decode mX12_ways.2.1 7 = .ok (.if_icmp .ge 41, 3) := by decide +kernel
theorem dX12_ways_10 : decode mX12_ways.2.1 10 = .ok (.aload_n 0, 1) := by decide +kernel
theorem dX12_ways_11 : decode mX12_ways.2.1 11 = .ok (.getfield 85, 3) := by decide +kernel
theorem dX12_ways_14 : decode mX12_ways.2.1 14 = .ok (.iload 4, 2) := by decide +kernel
theorem dX12_ways_16 : decode mX12_ways.2.1 16 = .ok (.iload 4, 2) := by decide +kernel
theorem dX12_ways_18 : decode mX12_ways.2.1 18 = .ok (.iload_n 2, 1) := by decide +kernel
theorem dX12_ways_19 : decode mX12_ways.2.1 19 = .ok (.iload_n 3, 1) := by decide +kernel
theorem dX12_ways_20 : decode mX12_ways.2.1 20 = .ok (.invokestatic 248, 3) := by decide +kernel
theorem dX12_ways_23 : decode mX12_ways.2.1 23 = .ok (.ifCond .eq 7, 3) := by decide +kernel
theorem dX12_ways_26 : decode mX12_ways.2.1 26 = .ok (.lconst 0, 1) := by decide +kernel
theorem dX12_ways_27 : decode mX12_ways.2.1 27 = .ok (.goto 6, 3) := by decide +kernel
theorem dX12_ways_30 : decode mX12_ways.2.1 30 = .ok (.ldc2_w 252, 3) := by decide +kernel
theorem dX12_ways_33 : decode mX12_ways.2.1 33 = .ok (.lastore, 1) := by decide +kernel
theorem dX12_ways_34 : decode mX12_ways.2.1 34 = .ok (.aload_n 0, 1) := by decide +kernel
theorem dX12_ways_35 : decode mX12_ways.2.1 35 = .ok (.getfield 88, 3) := by decide +kernel
theorem dX12_ways_38 : decode mX12_ways.2.1 38 = .ok (.iload 4, 2) := by decide +kernel
theorem dX12_ways_40 : decode mX12_ways.2.1 40 = .ok (.iconst 0, 1) := by decide +kernel
theorem dX12_ways_41 : decode mX12_ways.2.1 41 = .ok (.bastore, 1) := by decide +kernel
theorem dX12_ways_42 : decode mX12_ways.2.1 42 = .ok (.iinc 4 1, 3) := by decide +kernel
theorem dX12_ways_45 : decode mX12_ways.2.1 45 = .ok (.goto (-42), 3) := by decide +kernel
theorem dX12_ways_48 : decode mX12_ways.2.1 48 = .ok (.iconst (-1), 1) := by decide +kernel
theorem dX12_ways_49 : decode mX12_ways.2.1 49 = .ok (.istore 4, 2) := by decide +kernel
theorem dX12_ways_51 : decode mX12_ways.2.1 51 = .ok (.iconst 0, 1) := by decide +kernel
theorem dX12_ways_52 : decode mX12_ways.2.1 52 = .ok (.istore 5, 2) := by decide +kernel
theorem dX12_ways_54 : decode mX12_ways.2.1 54 = .ok (.iload 5, 2) := by decide +kernel
theorem dX12_ways_56 : decode mX12_ways.2.1 56 = .ok (.bipush 64, 2) := by decide +kernel
theorem dX12_ways_58 : decode mX12_ways.2.1 58 = .ok (.if_icmp .ge 61, 3) := by decide +kernel
theorem dX12_ways_61 : decode mX12_ways.2.1 61 = .ok (.aload_n 0, 1) := by decide +kernel
theorem dX12_ways_62 : decode mX12_ways.2.1 62 = .ok (.getfield 88, 3) := by decide +kernel
theorem dX12_ways_65 : decode mX12_ways.2.1 65 = .ok (.iload 5, 2) := by decide +kernel
theorem dX12_ways_67 : decode mX12_ways.2.1 67 = .ok (.baload, 1) := by decide +kernel
theorem dX12_ways_68 : decode mX12_ways.2.1 68 = .ok (.ifCond .ne 45, 3) := by decide +kernel
theorem dX12_ways_71 : decode mX12_ways.2.1 71 = .ok (.aload_n 0, 1) := by decide +kernel
theorem dX12_ways_72 : decode mX12_ways.2.1 72 = .ok (.getfield 85, 3) := by decide +kernel
theorem dX12_ways_75 : decode mX12_ways.2.1 75 = .ok (.iload 5, 2) := by decide +kernel
theorem dX12_ways_77 : decode mX12_ways.2.1 77 = .ok (.laload, 1) := by decide +kernel
theorem dX12_ways_78 : decode mX12_ways.2.1 78 = .ok (.ldc2_w 252, 3) := by decide +kernel
theorem dX12_ways_81 : decode mX12_ways.2.1 81 = .ok (.lcmp, 1) := by decide +kernel
theorem dX12_ways_82 : decode mX12_ways.2.1 82 = .ok (.ifCond .ge 31, 3) := by decide +kernel
theorem dX12_ways_85 : decode mX12_ways.2.1 85 = .ok (.iload 4, 2) := by decide +kernel
theorem dX12_ways_87 : decode mX12_ways.2.1 87 = .ok (.iconst (-1), 1) := by decide +kernel
theorem dX12_ways_88 : decode mX12_ways.2.1 88 = .ok (.if_icmp .eq 21, 3) := by decide +kernel
theorem dX12_ways_91 : decode mX12_ways.2.1 91 = .ok (.aload_n 0, 1) := by decide +kernel
theorem dX12_ways_92 : decode mX12_ways.2.1 92 = .ok (.getfield 85, 3) := by decide +kernel
theorem dX12_ways_95 : decode mX12_ways.2.1 95 = .ok (.iload 5, 2) := by decide +kernel
theorem dX12_ways_97 : decode mX12_ways.2.1 97 = .ok (.laload, 1) := by decide +kernel
theorem dX12_ways_98 : decode mX12_ways.2.1 98 = .ok (.aload_n 0, 1) := by decide +kernel
theorem dX12_ways_99 : decode mX12_ways.2.1 99 = .ok (.getfield 85, 3) := by decide +kernel
theorem dX12_ways_102 : decode mX12_ways.2.1 102 = .ok (.iload 4, 2) := by decide +kernel
theorem dX12_ways_104 : decode mX12_ways.2.1 104 = .ok (.laload, 1) := by decide +kernel
theorem dX12_ways_105 : decode mX12_ways.2.1 105 = .ok (.lcmp, 1) := by decide +kernel
theorem dX12_ways_106 : decode mX12_ways.2.1 106 = .ok (.ifCond .ge 7, 3) := by decide +kernel
theorem dX12_ways_109 : decode mX12_ways.2.1 109 = .ok (.iload 5, 2) := by decide +kernel
theorem dX12_ways_111 : decode mX12_ways.2.1 111 = .ok (.istore 4, 2) := by decide +kernel
theorem dX12_ways_113 : decode mX12_ways.2.1 113 = .ok (.iinc 5 1, 3) := by decide +kernel
theorem dX12_ways_116 : decode mX12_ways.2.1 116 = .ok (.goto (-62), 3) := by decide +kernel
theorem dX12_ways_119 : decode mX12_ways.2.1 119 = .ok (.iload 4, 2) := by decide +kernel
theorem dX12_ways_121 : decode mX12_ways.2.1 121 = .ok (.iconst (-1), 1) := by decide +kernel
theorem dX12_ways_122 : decode mX12_ways.2.1 122 = .ok (.if_icmp .ne 4, 3) := by decide +kernel
theorem dX12_ways_125 : decode mX12_ways.2.1 125 = .ok (.return_, 1) := by decide +kernel
theorem dX12_ways_126 : decode mX12_ways.2.1 126 = .ok (.aload_n 0, 1) := by decide +kernel
theorem dX12_ways_127 : decode mX12_ways.2.1 127 = .ok (.getfield 88, 3) := by decide +kernel
theorem dX12_ways_130 : decode mX12_ways.2.1 130 = .ok (.iload 4, 2) := by decide +kernel
theorem dX12_ways_132 : decode mX12_ways.2.1 132 = .ok (.iconst 1, 1) := by decide +kernel
theorem dX12_ways_133 : decode mX12_ways.2.1 133 = .ok (.bastore, 1) := by decide +kernel
theorem dX12_ways_134 : decode mX12_ways.2.1 134 = .ok (.aload_n 0, 1) := by decide +kernel
theorem dX12_ways_135 : decode mX12_ways.2.1 135 = .ok (.iload_n 1, 1) := by decide +kernel
theorem dX12_ways_136 : decode mX12_ways.2.1 136 = .ok (.iload 4, 2) := by decide +kernel
theorem dX12_ways_138 : decode mX12_ways.2.1 138 = .ok (.invokevirtual 254, 3) := by decide +kernel
theorem dX12_ways_141 : decode mX12_ways.2.1 141 = .ok (.ifCond .ne 6, 3) := by decide +kernel
theorem dX12_ways_144 : decode mX12_ways.2.1 144 = .ok (.goto (-96), 3) := by decide +kernel
theorem dX12_ways_147 : decode mX12_ways.2.1 147 = .ok (.iconst 0, 1) := by decide +kernel
theorem dX12_ways_148 : decode mX12_ways.2.1 148 = .ok (.istore 5, 2) := by decide +kernel
theorem dX12_ways_150 : decode mX12_ways.2.1 150 = .ok (.iload 5, 2) := by decide +kernel
theorem dX12_ways_152 : decode mX12_ways.2.1 152 = .ok (.iconst 4, 1) := by decide +kernel
theorem dX12_ways_153 : decode mX12_ways.2.1 153 = .ok (.if_icmp .ge 69, 3) := by decide +kernel
theorem dX12_ways_156 : decode mX12_ways.2.1 156 = .ok (.iload 4, 2) := by decide +kernel
theorem dX12_ways_158 : decode mX12_ways.2.1 158 = .ok (.iload 5, 2) := by decide +kernel
theorem dX12_ways_160 : decode mX12_ways.2.1 160 = .ok (.invokestatic 257, 3) := by decide +kernel
theorem dX12_ways_163 : decode mX12_ways.2.1 163 = .ok (.iconst (-1), 1) := by decide +kernel
theorem dX12_ways_164 : decode mX12_ways.2.1 164 = .ok (.if_icmp .eq 52, 3) := by decide +kernel
theorem dX12_ways_167 : decode mX12_ways.2.1 167 = .ok (.aload_n 0, 1) := by decide +kernel
theorem dX12_ways_168 : decode mX12_ways.2.1 168 = .ok (.getfield 85, 3) := by decide +kernel
theorem dX12_ways_171 : decode mX12_ways.2.1 171 = .ok (.iload 4, 2) := by decide +kernel
theorem dX12_ways_173 : decode mX12_ways.2.1 173 = .ok (.iload 5, 2) := by decide +kernel
theorem dX12_ways_175 : decode mX12_ways.2.1 175 = .ok (.invokestatic 257, 3) := by decide +kernel
theorem dX12_ways_178 : decode mX12_ways.2.1 178 = .ok (.aload_n 0, 1) := by decide +kernel
theorem dX12_ways_179 : decode mX12_ways.2.1 179 = .ok (.getfield 85, 3) := by decide +kernel
theorem dX12_ways_182 : decode mX12_ways.2.1 182 = .ok (.iload 4, 2) := by decide +kernel
theorem dX12_ways_184 : decode mX12_ways.2.1 184 = .ok (.iload 5, 2) := by decide +kernel
theorem dX12_ways_186 : decode mX12_ways.2.1 186 = .ok (.invokestatic 257, 3) := by decide +kernel
theorem dX12_ways_189 : decode mX12_ways.2.1 189 = .ok (.laload, 1) := by decide +kernel
theorem dX12_ways_190 : decode mX12_ways.2.1 190 = .ok (.aload_n 0, 1) := by decide +kernel
theorem dX12_ways_191 : decode mX12_ways.2.1 191 = .ok (.getfield 85, 3) := by decide +kernel
theorem dX12_ways_194 : decode mX12_ways.2.1 194 = .ok (.iload 4, 2) := by decide +kernel
theorem dX12_ways_196 : decode mX12_ways.2.1 196 = .ok (.laload, 1) := by decide +kernel
theorem dX12_ways_197 : decode mX12_ways.2.1 197 = .ok (.ldc2_w 260, 3) := by decide +kernel
theorem dX12_ways_200 : decode mX12_ways.2.1 200 = .ok (.aload_n 0, 1) := by decide +kernel
theorem dX12_ways_201 : decode mX12_ways.2.1 201 = .ok (.iload_n 1, 1) := by decide +kernel
theorem dX12_ways_202 : decode mX12_ways.2.1 202 = .ok (.iload 4, 2) := by decide +kernel
theorem dX12_ways_204 : decode mX12_ways.2.1 204 = .ok (.invokevirtual 241, 3) := by decide +kernel
theorem dX12_ways_207 : decode mX12_ways.2.1 207 = .ok (.i2l, 1) := by decide +kernel
theorem dX12_ways_208 : decode mX12_ways.2.1 208 = .ok (.lmul, 1) := by decide +kernel
theorem dX12_ways_209 : decode mX12_ways.2.1 209 = .ok (.ladd, 1) := by decide +kernel
theorem dX12_ways_210 : decode mX12_ways.2.1 210 = .ok (.lconst 1, 1) := by decide +kernel
theorem dX12_ways_211 : decode mX12_ways.2.1 211 = .ok (.ladd, 1) := by decide +kernel
theorem dX12_ways_212 : decode mX12_ways.2.1 212 = .ok (.invokestatic 262, 3) := by decide +kernel
theorem dX12_ways_215 : decode mX12_ways.2.1 215 = .ok (.lastore, 1) := by decide +kernel
theorem dX12_ways_216 : decode mX12_ways.2.1 216 = .ok (.iinc 5 1, 3) := by decide +kernel
theorem dX12_ways_219 : decode mX12_ways.2.1 219 = .ok (.goto (-69), 3) := by decide +kernel
theorem dX12_ways_222 : decode mX12_ways.2.1 222 = .ok (.goto (-174), 3) := by decide +kernel
theorem dX12_way_0 : decode mX12_way.2.1 0 = .ok (.aload_n 0, 1) := by decide +kernel
theorem dX12_way_1 : decode mX12_way.2.1 1 = .ok (.iload_n 1, 1) := by decide +kernel
theorem dX12_way_2 : decode mX12_way.2.1 2 = .ok (.invokevirtual 216, 3) := by decide +kernel
theorem dX12_way_5 : decode mX12_way.2.1 5 = .ok (.ifCond .eq 19, 3) := by decide +kernel
theorem dX12_way_8 : decode mX12_way.2.1 8 = .ok (.iload_n 2, 1) := by decide +kernel
theorem dX12_way_9 : decode mX12_way.2.1 9 = .ok (.invokestatic 199, 3) := by decide +kernel
theorem dX12_way_12 : decode mX12_way.2.1 12 = .ok (.ifCond .eq 12, 3) := by decide +kernel
theorem dX12_way_15 : decode mX12_way.2.1 15 = .ok (.iload_n 3, 1) := by decide +kernel
theorem dX12_way_16 : decode mX12_way.2.1 16 = .ok (.iconst 0, 1) := by decide +kernel
theorem dX12_way_17 : decode mX12_way.2.1 17 = .ok (.iconst 2, 1) := by decide +kernel
theorem dX12_way_18 : decode mX12_way.2.1 18 = .ok (.invokestatic 162, 3) := by decide +kernel
theorem dX12_way_21 : decode mX12_way.2.1 21 = .ok (.ifCond .ne 5, 3) := by decide +kernel
theorem dX12_way_24 : decode mX12_way.2.1 24 = .ok (.iconst (-1), 1) := by decide +kernel
theorem dX12_way_25 : decode mX12_way.2.1 25 = .ok (.ireturn, 1) := by decide +kernel
theorem dX12_way_26 : decode mX12_way.2.1 26 = .ok (.aload_n 0, 1) := by decide +kernel
theorem dX12_way_27 : decode mX12_way.2.1 27 = .ok (.iload_n 1, 1) := by decide +kernel
theorem dX12_way_28 : decode mX12_way.2.1 28 = .ok (.iload_n 2, 1) := by decide +kernel
theorem dX12_way_29 : decode mX12_way.2.1 29 = .ok (.iconst 0, 1) := by decide +kernel
theorem dX12_way_30 : decode mX12_way.2.1 30 = .ok (.invokevirtual 266, 3) := by decide +kernel
theorem dX12_way_33 : decode mX12_way.2.1 33 = .ok (.aload_n 0, 1) := by decide +kernel
theorem dX12_way_34 : decode mX12_way.2.1 34 = .ok (.getfield 85, 3) := by decide +kernel
theorem dX12_way_37 : decode mX12_way.2.1 37 = .ok (.aload_n 0, 1) := by decide +kernel
theorem dX12_way_38 : decode mX12_way.2.1 38 = .ok (.getfield 7, 3) := by decide +kernel
theorem dX12_way_41 : decode mX12_way.2.1 41 = .ok (.sipush 960, 3) := by decide +kernel
theorem dX12_way_44 : decode mX12_way.2.1 44 = .ok (.iload_n 1, 1) := by decide +kernel
theorem dX12_way_45 : decode mX12_way.2.1 45 = .ok (.iadd, 1) := by decide +kernel
theorem dX12_way_46 : decode mX12_way.2.1 46 = .ok (.iaload, 1) := by decide +kernel
theorem dX12_way_47 : decode mX12_way.2.1 47 = .ok (.laload, 1) := by decide +kernel
theorem dX12_way_48 : decode mX12_way.2.1 48 = .ok (.lstore 4, 2) := by decide +kernel
theorem dX12_way_50 : decode mX12_way.2.1 50 = .ok (.lload 4, 2) := by decide +kernel
theorem dX12_way_52 : decode mX12_way.2.1 52 = .ok (.ldc2_w 252, 3) := by decide +kernel
theorem dX12_way_55 : decode mX12_way.2.1 55 = .ok (.lcmp, 1) := by decide +kernel
theorem dX12_way_56 : decode mX12_way.2.1 56 = .ok (.ifCond .ne 5, 3) := by decide +kernel
theorem dX12_way_59 : decode mX12_way.2.1 59 = .ok (.iconst (-1), 1) := by decide +kernel
theorem dX12_way_60 : decode mX12_way.2.1 60 = .ok (.ireturn, 1) := by decide +kernel
theorem dX12_way_61 : decode mX12_way.2.1 61 = .ok (.iload_n 3, 1) := by decide +kernel
theorem dX12_way_62 : decode mX12_way.2.1 62 = .ok (.ifCond .ne 13, 3) := by decide +kernel
theorem dX12_way_65 : decode mX12_way.2.1 65 = .ok (.lload 4, 2) := by decide +kernel
theorem dX12_way_67 : decode mX12_way.2.1 67 = .ok (.ldc2_w 260, 3) := by decide +kernel
theorem dX12_way_70 : decode mX12_way.2.1 70 = .ok (.ldiv, 1) := by decide +kernel
theorem dX12_way_71 : decode mX12_way.2.1 71 = .ok (.l2i, 1) := by decide +kernel
theorem dX12_way_72 : decode mX12_way.2.1 72 = .ok (.goto 33, 3) := by decide +kernel
theorem dX12_way_75 : decode mX12_way.2.1 75 = .ok (.iload_n 3, 1) := by decide +kernel
theorem dX12_way_76 : decode mX12_way.2.1 76 = .ok (.iconst 1, 1) := by decide +kernel
theorem dX12_way_77 : decode mX12_way.2.1 77 = .ok (.if_icmp .ne 13, 3) := by decide +kernel
theorem dX12_way_80 : decode mX12_way.2.1 80 = .ok (.lload 4, 2) := by decide +kernel
theorem dX12_way_82 : decode mX12_way.2.1 82 = .ok (.ldc2_w 260, 3) := by decide +kernel
theorem dX12_way_85 : decode mX12_way.2.1 85 = .ok (.lrem, 1) := by decide +kernel
theorem dX12_way_86 : decode mX12_way.2.1 86 = .ok (.l2i, 1) := by decide +kernel
theorem dX12_way_87 : decode mX12_way.2.1 87 = .ok (.goto 18, 3) := by decide +kernel
theorem dX12_way_90 : decode mX12_way.2.1 90 = .ok (.aload_n 0, 1) := by decide +kernel
theorem dX12_way_91 : decode mX12_way.2.1 91 = .ok (.iload_n 1, 1) := by decide +kernel
theorem dX12_way_92 : decode mX12_way.2.1 92 = .ok (.aload_n 0, 1) := by decide +kernel
theorem dX12_way_93 : decode mX12_way.2.1 93 = .ok (.getfield 7, 3) := by decide +kernel
theorem dX12_way_96 : decode mX12_way.2.1 96 = .ok (.sipush 960, 3) := by decide +kernel
theorem dX12_way_99 : decode mX12_way.2.1 99 = .ok (.iload_n 1, 1) := by decide +kernel
theorem dX12_way_100 : decode mX12_way.2.1 100 = .ok (.iadd, 1) := by decide +kernel
theorem dX12_way_101 : decode mX12_way.2.1 101 = .ok (.iaload, 1) := by decide +kernel
theorem dX12_way_102 : decode mX12_way.2.1 102 = .ok (.invokevirtual 270, 3) := by decide +kernel
theorem dX12_way_105 : decode mX12_way.2.1 105 = .ok (.ireturn, 1) := by decide +kernel
theorem dX12_offers_0 : decode mX12_offers.2.1 0 = .ok (.iconst 0, 1) := by decide +kernel
theorem dX12_offers_1 : decode mX12_offers.2.1 1 = .ok (.istore_n 1, 1) := by decide +kernel
theorem dX12_offers_2 : decode mX12_offers.2.1 2 = .ok (.iload_n 1, 1) := by decide +kernel
theorem dX12_offers_3 : decode mX12_offers.2.1 3 = .ok (.aload_n 0, 1) := by decide +kernel
theorem dX12_offers_4 : decode mX12_offers.2.1 4 = .ok (.getfield 7, 3) := by decide +kernel
theorem dX12_offers_7 : decode mX12_offers.2.1 7 = .ok (.sipush 1632, 3) := by decide +kernel
theorem dX12_offers_10 : decode mX12_offers.2.1 10 = .ok (.iaload, 1) := by decide +kernel
theorem dX12_offers_11 : decode mX12_offers.2.1 11 = .ok (.if_icmp .ge 199, 3) := by decide +kernel
theorem dX12_offers_14 : decode mX12_offers.2.1 14 = .ok (.aload_n 0, 1) := by decide +kernel
theorem dX12_offers_15 : decode mX12_offers.2.1 15 = .ok (.getfield 7, 3) := by decide +kernel
theorem dX12_offers_18 : decode mX12_offers.2.1 18 = .ok (.sipush 1504, 3) := by decide +kernel
theorem dX12_offers_21 : decode mX12_offers.2.1 21 = .ok (.iload_n 1, 1) := by decide +kernel
theorem dX12_offers_22 : decode mX12_offers.2.1 22 = .ok (.iadd, 1) := by decide +kernel
theorem dX12_offers_23 : decode mX12_offers.2.1 23 = .ok (.iaload, 1) := by decide +kernel
theorem dX12_offers_24 : decode mX12_offers.2.1 24 = .ok (.ifCond .eq 6, 3) := by decide +kernel
theorem dX12_offers_27 : decode mX12_offers.2.1 27 = .ok (.goto 177, 3) := by decide +kernel
theorem dX12_offers_30 : decode mX12_offers.2.1 30 = .ok (.iconst (-1), 1) := by decide +kernel
theorem dX12_offers_31 : decode mX12_offers.2.1 31 = .ok (.istore_n 2, 1) := by decide +kernel
theorem dX12_offers_32 : decode mX12_offers.2.1 32 = .ok (.lconst 0, 1) := by decide +kernel
theorem dX12_offers_33 : decode mX12_offers.2.1 33 = .ok (.lstore_n 3, 1) := by decide +kernel
theorem dX12_offers_34 : decode mX12_offers.2.1 34 = .ok (.iconst 0, 1) := by decide +kernel
theorem dX12_offers_35 : decode mX12_offers.2.1 35 = .ok (.istore 5, 2) := by decide +kernel
theorem dX12_offers_37 : decode mX12_offers.2.1 37 = .ok (.iload 5, 2) := by decide +kernel
theorem dX12_offers_39 : decode mX12_offers.2.1 39 = .ok (.aload_n 0, 1) := by decide +kernel
theorem dX12_offers_40 : decode mX12_offers.2.1 40 = .ok (.getfield 7, 3) := by decide +kernel
theorem dX12_offers_43 : decode mX12_offers.2.1 43 = .ok (.sipush 1631, 3) := by decide +kernel
theorem dX12_offers_46 : decode mX12_offers.2.1 46 = .ok (.iaload, 1) := by decide +kernel
theorem dX12_offers_47 : decode mX12_offers.2.1 47 = .ok (.if_icmp .ge 105, 3) := by decide +kernel
theorem dX12_offers_50 : decode mX12_offers.2.1 50 = .ok (.aload_n 0, 1) := by decide +kernel
theorem dX12_offers_51 : decode mX12_offers.2.1 51 = .ok (.iload 5, 2) := by decide +kernel
theorem dX12_offers_53 : decode mX12_offers.2.1 53 = .ok (.iload_n 1, 1) := by decide +kernel
theorem dX12_offers_54 : decode mX12_offers.2.1 54 = .ok (.invokevirtual 273, 3) := by decide +kernel
theorem dX12_offers_57 : decode mX12_offers.2.1 57 = .ok (.ifCond .ne 6, 3) := by decide +kernel
theorem dX12_offers_60 : decode mX12_offers.2.1 60 = .ok (.goto 86, 3) := by decide +kernel
theorem dX12_offers_63 : decode mX12_offers.2.1 63 = .ok (.aload_n 0, 1) := by decide +kernel
theorem dX12_offers_64 : decode mX12_offers.2.1 64 = .ok (.iload 5, 2) := by decide +kernel
theorem dX12_offers_66 : decode mX12_offers.2.1 66 = .ok (.aload_n 0, 1) := by decide +kernel
theorem dX12_offers_67 : decode mX12_offers.2.1 67 = .ok (.getfield 58, 3) := by decide +kernel
theorem dX12_offers_70 : decode mX12_offers.2.1 70 = .ok (.iload_n 1, 1) := by decide +kernel
theorem dX12_offers_71 : decode mX12_offers.2.1 71 = .ok (.iaload, 1) := by decide +kernel
theorem dX12_offers_72 : decode mX12_offers.2.1 72 = .ok (.aload_n 0, 1) := by decide +kernel
theorem dX12_offers_73 : decode mX12_offers.2.1 73 = .ok (.getfield 55, 3) := by decide +kernel
theorem dX12_offers_76 : decode mX12_offers.2.1 76 = .ok (.iload_n 1, 1) := by decide +kernel
theorem dX12_offers_77 : decode mX12_offers.2.1 77 = .ok (.iaload, 1) := by decide +kernel
theorem dX12_offers_78 : decode mX12_offers.2.1 78 = .ok (.iconst 3, 1) := by decide +kernel
theorem dX12_offers_79 : decode mX12_offers.2.1 79 = .ok (.if_icmp .ne 7, 3) := by decide +kernel
theorem dX12_offers_82 : decode mX12_offers.2.1 82 = .ok (.iconst 1, 1) := by decide +kernel
theorem dX12_offers_83 : decode mX12_offers.2.1 83 = .ok (.goto 4, 3) := by decide +kernel
theorem dX12_offers_86 : decode mX12_offers.2.1 86 = .ok (.iconst 0, 1) := by decide +kernel
theorem dX12_offers_87 : decode mX12_offers.2.1 87 = .ok (.invokevirtual 266, 3) := by decide +kernel
theorem dX12_offers_90 : decode mX12_offers.2.1 90 = .ok (.aload_n 0, 1) := by decide +kernel
theorem dX12_offers_91 : decode mX12_offers.2.1 91 = .ok (.getfield 85, 3) := by decide +kernel
theorem dX12_offers_94 : decode mX12_offers.2.1 94 = .ok (.aload_n 0, 1) := by decide +kernel
theorem dX12_offers_95 : decode mX12_offers.2.1 95 = .ok (.getfield 7, 3) := by decide +kernel
theorem dX12_offers_98 : decode mX12_offers.2.1 98 = .ok (.sipush 960, 3) := by decide +kernel
theorem dX12_offers_101 : decode mX12_offers.2.1 101 = .ok (.iload 5, 2) := by decide +kernel
theorem dX12_offers_103 : decode mX12_offers.2.1 103 = .ok (.iadd, 1) := by decide +kernel
theorem dX12_offers_104 : decode mX12_offers.2.1 104 = .ok (.iaload, 1) := by decide +kernel
theorem dX12_offers_105 : decode mX12_offers.2.1 105 = .ok (.laload, 1) := by decide +kernel
theorem dX12_offers_106 : decode mX12_offers.2.1 106 = .ok (.lstore 6, 2) := by decide +kernel
theorem dX12_offers_108 : decode mX12_offers.2.1 108 = .ok (.lload 6, 2) := by decide +kernel
theorem dX12_offers_110 : decode mX12_offers.2.1 110 = .ok (.ldc2_w 252, 3) := by decide +kernel
theorem dX12_offers_113 : decode mX12_offers.2.1 113 = .ok (.lcmp, 1) := by decide +kernel
theorem dX12_offers_114 : decode mX12_offers.2.1 114 = .ok (.ifCond .eq 32, 3) := by decide +kernel
theorem dX12_offers_117 : decode mX12_offers.2.1 117 = .ok (.iload_n 2, 1) := by decide +kernel
theorem dX12_offers_118 : decode mX12_offers.2.1 118 = .ok (.iconst (-1), 1) := by decide +kernel
theorem dX12_offers_119 : decode mX12_offers.2.1 119 = .ok (.if_icmp .eq 17, 3) := by decide +kernel
theorem dX12_offers_122 : decode mX12_offers.2.1 122 = .ok (.lload 6, 2) := by decide +kernel
theorem dX12_offers_124 : decode mX12_offers.2.1 124 = .ok (.ldc2_w 260, 3) := by decide +kernel
theorem dX12_offers_127 : decode mX12_offers.2.1 127 = .ok (.ldiv, 1) := by decide +kernel
theorem dX12_offers_128 : decode mX12_offers.2.1 128 = .ok (.lload_n 3, 1) := by decide +kernel
theorem dX12_offers_129 : decode mX12_offers.2.1 129 = .ok (.lcmp, 1) := by decide +kernel
theorem dX12_offers_130 : decode mX12_offers.2.1 130 = .ok (.ifCond .lt 6, 3) := by decide +kernel
theorem dX12_offers_133 : decode mX12_offers.2.1 133 = .ok (.goto 13, 3) := by decide +kernel
theorem dX12_offers_136 : decode mX12_offers.2.1 136 = .ok (.iload 5, 2) := by decide +kernel
theorem dX12_offers_138 : decode mX12_offers.2.1 138 = .ok (.istore_n 2, 1) := by decide +kernel
theorem dX12_offers_139 : decode mX12_offers.2.1 139 = .ok (.lload 6, 2) := by decide +kernel
theorem dX12_offers_141 : decode mX12_offers.2.1 141 = .ok (.ldc2_w 260, 3) := by decide +kernel
theorem dX12_offers_144 : decode mX12_offers.2.1 144 = .ok (.ldiv, 1) := by decide +kernel
theorem dX12_offers_145 : decode mX12_offers.2.1 145 = .ok (.lstore_n 3, 1) := by decide +kernel
theorem dX12_offers_146 : decode mX12_offers.2.1 146 = .ok (.iinc 5 1, 3) := by decide +kernel
theorem dX12_offers_149 : decode mX12_offers.2.1 149 = .ok (.goto (-112), 3) := by decide +kernel
theorem dX12_offers_152 : decode mX12_offers.2.1 152 = .ok (.iload_n 2, 1) := by decide +kernel
theorem dX12_offers_153 : decode mX12_offers.2.1 153 = .ok (.iconst (-1), 1) := by decide +kernel
theorem dX12_offers_154 : decode mX12_offers.2.1 154 = .ok (.if_icmp .ne 6, 3) := by decide +kernel
theorem dX12_offers_157 : decode mX12_offers.2.1 157 = .ok (.goto 47, 3) := by decide +kernel
theorem dX12_offers_160 : decode mX12_offers.2.1 160 = .ok (.aload_n 0, 1) := by decide +kernel
theorem dX12_offers_161 : decode mX12_offers.2.1 161 = .ok (.getfield 7, 3) := by decide +kernel
theorem dX12_offers_164 : decode mX12_offers.2.1 164 = .ok (.sipush 1504, 3) := by decide +kernel
theorem dX12_offers_167 : decode mX12_offers.2.1 167 = .ok (.iload_n 1, 1) := by decide +kernel
theorem dX12_offers_168 : decode mX12_offers.2.1 168 = .ok (.iadd, 1) := by decide +kernel
theorem dX12_offers_169 : decode mX12_offers.2.1 169 = .ok (.iconst 1, 1) := by decide +kernel
theorem dX12_offers_170 : decode mX12_offers.2.1 170 = .ok (.iastore, 1) := by decide +kernel
theorem dX12_offers_171 : decode mX12_offers.2.1 171 = .ok (.aload_n 0, 1) := by decide +kernel
theorem dX12_offers_172 : decode mX12_offers.2.1 172 = .ok (.getfield 7, 3) := by decide +kernel
theorem dX12_offers_175 : decode mX12_offers.2.1 175 = .ok (.sipush 1564, 3) := by decide +kernel
theorem dX12_offers_178 : decode mX12_offers.2.1 178 = .ok (.iload_n 1, 1) := by decide +kernel
theorem dX12_offers_179 : decode mX12_offers.2.1 179 = .ok (.iadd, 1) := by decide +kernel
theorem dX12_offers_180 : decode mX12_offers.2.1 180 = .ok (.iload_n 2, 1) := by decide +kernel
theorem dX12_offers_181 : decode mX12_offers.2.1 181 = .ok (.iastore, 1) := by decide +kernel
theorem dX12_offers_182 : decode mX12_offers.2.1 182 = .ok (.aload_n 0, 1) := by decide +kernel
theorem dX12_offers_183 : decode mX12_offers.2.1 183 = .ok (.getfield 7, 3) := by decide +kernel
theorem dX12_offers_186 : decode mX12_offers.2.1 186 = .ok (.sipush 976, 3) := by decide +kernel
theorem dX12_offers_189 : decode mX12_offers.2.1 189 = .ok (.iload_n 2, 1) := by decide +kernel
theorem dX12_offers_190 : decode mX12_offers.2.1 190 = .ok (.iadd, 1) := by decide +kernel
theorem dX12_offers_191 : decode mX12_offers.2.1 191 = .ok (.iconst 1, 1) := by decide +kernel
theorem dX12_offers_192 : decode mX12_offers.2.1 192 = .ok (.iastore, 1) := by decide +kernel
theorem dX12_offers_193 : decode mX12_offers.2.1 193 = .ok (.aload_n 0, 1) := by decide +kernel
theorem dX12_offers_194 : decode mX12_offers.2.1 194 = .ok (.getfield 7, 3) := by decide +kernel
theorem dX12_offers_197 : decode mX12_offers.2.1 197 = .ok (.sipush 984, 3) := by decide +kernel
theorem dX12_offers_200 : decode mX12_offers.2.1 200 = .ok (.iload_n 2, 1) := by decide +kernel
theorem dX12_offers_201 : decode mX12_offers.2.1 201 = .ok (.iadd, 1) := by decide +kernel
theorem dX12_offers_202 : decode mX12_offers.2.1 202 = .ok (.iload_n 1, 1) := by decide +kernel
theorem dX12_offers_203 : decode mX12_offers.2.1 203 = .ok (.iastore, 1) := by decide +kernel
theorem dX12_offers_204 : decode mX12_offers.2.1 204 = .ok (.iinc 1 1, 3) := by decide +kernel
theorem dX12_offers_207 : decode mX12_offers.2.1 207 = .ok (.goto (-205), 3) := by decide +kernel
theorem dX12_offers_210 : decode mX12_offers.2.1 210 = .ok (.return_, 1) := by decide +kernel
theorem dX12_gives_0 : decode mX12_gives.2.1 0 = .ok (.aload_n 0, 1) := by decide +kernel
theorem dX12_gives_1 : decode mX12_gives.2.1 1 = .ok (.getfield 7, 3) := by decide +kernel
theorem dX12_gives_4 : decode mX12_gives.2.1 4 = .ok (.sipush 968, 3) := by decide +kernel
theorem dX12_gives_7 : decode mX12_gives.2.1 7 = .ok (.iload_n 1, 1) := by decide +kernel
theorem dX12_gives_8 : decode mX12_gives.2.1 8 = .ok (.iadd, 1) := by decide +kernel
theorem dX12_gives_9 : decode mX12_gives.2.1 9 = .ok (.aload_n 0, 1) := by decide +kernel
theorem dX12_gives_10 : decode mX12_gives.2.1 10 = .ok (.getfield 52, 3) := by decide +kernel
theorem dX12_gives_13 : decode mX12_gives.2.1 13 = .ok (.iload_n 1, 1) := by decide +kernel
theorem dX12_gives_14 : decode mX12_gives.2.1 14 = .ok (.iaload, 1) := by decide +kernel
theorem dX12_gives_15 : decode mX12_gives.2.1 15 = .ok (.aload_n 0, 1) := by decide +kernel
theorem dX12_gives_16 : decode mX12_gives.2.1 16 = .ok (.getfield 7, 3) := by decide +kernel
theorem dX12_gives_19 : decode mX12_gives.2.1 19 = .ok (.sipush 968, 3) := by decide +kernel
theorem dX12_gives_22 : decode mX12_gives.2.1 22 = .ok (.iload_n 1, 1) := by decide +kernel
theorem dX12_gives_23 : decode mX12_gives.2.1 23 = .ok (.iadd, 1) := by decide +kernel
theorem dX12_gives_24 : decode mX12_gives.2.1 24 = .ok (.iaload, 1) := by decide +kernel
theorem dX12_gives_25 : decode mX12_gives.2.1 25 = .ok (.bipush 10, 2) := by decide +kernel
theorem dX12_gives_27 : decode mX12_gives.2.1 27 = .ok (.iadd, 1) := by decide +kernel
theorem dX12_gives_28 : decode mX12_gives.2.1 28 = .ok (.invokestatic 276, 3) := by decide +kernel
theorem dX12_gives_31 : decode mX12_gives.2.1 31 = .ok (.iastore, 1) := by decide +kernel
theorem dX12_gives_32 : decode mX12_gives.2.1 32 = .ok (.aload_n 0, 1) := by decide +kernel
theorem dX12_gives_33 : decode mX12_gives.2.1 33 = .ok (.getfield 7, 3) := by decide +kernel
theorem dX12_gives_36 : decode mX12_gives.2.1 36 = .ok (.sipush 976, 3) := by decide +kernel
theorem dX12_gives_39 : decode mX12_gives.2.1 39 = .ok (.iload_n 1, 1) := by decide +kernel
theorem dX12_gives_40 : decode mX12_gives.2.1 40 = .ok (.iadd, 1) := by decide +kernel
theorem dX12_gives_41 : decode mX12_gives.2.1 41 = .ok (.aload_n 0, 1) := by decide +kernel
theorem dX12_gives_42 : decode mX12_gives.2.1 42 = .ok (.getfield 7, 3) := by decide +kernel
theorem dX12_gives_45 : decode mX12_gives.2.1 45 = .ok (.sipush 968, 3) := by decide +kernel
theorem dX12_gives_48 : decode mX12_gives.2.1 48 = .ok (.iload_n 1, 1) := by decide +kernel
theorem dX12_gives_49 : decode mX12_gives.2.1 49 = .ok (.iadd, 1) := by decide +kernel
theorem dX12_gives_50 : decode mX12_gives.2.1 50 = .ok (.iaload, 1) := by decide +kernel
theorem dX12_gives_51 : decode mX12_gives.2.1 51 = .ok (.aload_n 0, 1) := by decide +kernel
theorem dX12_gives_52 : decode mX12_gives.2.1 52 = .ok (.getfield 52, 3) := by decide +kernel
theorem dX12_gives_55 : decode mX12_gives.2.1 55 = .ok (.iload_n 1, 1) := by decide +kernel
theorem dX12_gives_56 : decode mX12_gives.2.1 56 = .ok (.iaload, 1) := by decide +kernel
theorem dX12_gives_57 : decode mX12_gives.2.1 57 = .ok (.if_icmp .ne 7, 3) := by decide +kernel
theorem dX12_gives_60 : decode mX12_gives.2.1 60 = .ok (.iconst 0, 1) := by decide +kernel
theorem dX12_gives_61 : decode mX12_gives.2.1 61 = .ok (.goto 4, 3) := by decide +kernel
theorem dX12_gives_64 : decode mX12_gives.2.1 64 = .ok (.iconst 3, 1) := by decide +kernel
theorem dX12_gives_65 : decode mX12_gives.2.1 65 = .ok (.iastore, 1) := by decide +kernel
theorem dX12_gives_66 : decode mX12_gives.2.1 66 = .ok (.return_, 1) := by decide +kernel
theorem dX12_works_0 : decode mX12_works.2.1 0 = .ok (.aload_n 0, 1) := by decide +kernel
theorem dX12_works_1 : decode mX12_works.2.1 1 = .ok (.getfield 7, 3) := by decide +kernel
theorem dX12_works_4 : decode mX12_works.2.1 4 = .ok (.sipush 984, 3) := by decide +kernel
theorem dX12_works_7 : decode mX12_works.2.1 7 = .ok (.iload_n 1, 1) := by decide +kernel
theorem dX12_works_8 : decode mX12_works.2.1 8 = .ok (.iadd, 1) := by decide +kernel
theorem dX12_works_9 : decode mX12_works.2.1 9 = .ok (.iaload, 1) := by decide +kernel
theorem dX12_works_10 : decode mX12_works.2.1 10 = .ok (.istore_n 2, 1) := by decide +kernel
theorem dX12_works_11 : decode mX12_works.2.1 11 = .ok (.aload_n 0, 1) := by decide +kernel
theorem dX12_works_12 : decode mX12_works.2.1 12 = .ok (.getfield 58, 3) := by decide +kernel
theorem dX12_works_15 : decode mX12_works.2.1 15 = .ok (.iload_n 2, 1) := by decide +kernel
theorem dX12_works_16 : decode mX12_works.2.1 16 = .ok (.iaload, 1) := by decide +kernel
theorem dX12_works_17 : decode mX12_works.2.1 17 = .ok (.istore_n 3, 1) := by decide +kernel
theorem dX12_works_18 : decode mX12_works.2.1 18 = .ok (.aload_n 0, 1) := by decide +kernel
theorem dX12_works_19 : decode mX12_works.2.1 19 = .ok (.getfield 55, 3) := by decide +kernel
theorem dX12_works_22 : decode mX12_works.2.1 22 = .ok (.iload_n 2, 1) := by decide +kernel
theorem dX12_works_23 : decode mX12_works.2.1 23 = .ok (.iaload, 1) := by decide +kernel
theorem dX12_works_24 : decode mX12_works.2.1 24 = .ok (.tableswitch 109 0 2 #[28, 46, 69], 28) := by decide +kernel
theorem dX12_works_52 : decode mX12_works.2.1 52 = .ok (.aload_n 0, 1) := by decide +kernel
theorem dX12_works_53 : decode mX12_works.2.1 53 = .ok (.iload_n 3, 1) := by decide +kernel
theorem dX12_works_54 : decode mX12_works.2.1 54 = .ok (.aload_n 0, 1) := by decide +kernel
theorem dX12_works_55 : decode mX12_works.2.1 55 = .ok (.getfield 7, 3) := by decide +kernel
theorem dX12_works_58 : decode mX12_works.2.1 58 = .ok (.sipush 512, 3) := by decide +kernel
theorem dX12_works_61 : decode mX12_works.2.1 61 = .ok (.iload_n 3, 1) := by decide +kernel
theorem dX12_works_62 : decode mX12_works.2.1 62 = .ok (.iadd, 1) := by decide +kernel
theorem dX12_works_63 : decode mX12_works.2.1 63 = .ok (.iaload, 1) := by decide +kernel
theorem dX12_works_64 : decode mX12_works.2.1 64 = .ok (.invokevirtual 195, 3) := by decide +kernel
theorem dX12_works_67 : decode mX12_works.2.1 67 = .ok (.goto 72, 3) := by decide +kernel
theorem dX12_works_70 : decode mX12_works.2.1 70 = .ok (.aload_n 0, 1) := by decide +kernel
theorem dX12_works_71 : decode mX12_works.2.1 71 = .ok (.getfield 7, 3) := by decide +kernel
theorem dX12_works_74 : decode mX12_works.2.1 74 = .ok (.sipush 192, 3) := by decide +kernel
theorem dX12_works_77 : decode mX12_works.2.1 77 = .ok (.iload_n 3, 1) := by decide +kernel
theorem dX12_works_78 : decode mX12_works.2.1 78 = .ok (.iadd, 1) := by decide +kernel
theorem dX12_works_79 : decode mX12_works.2.1 79 = .ok (.iaload, 1) := by decide +kernel
theorem dX12_works_80 : decode mX12_works.2.1 80 = .ok (.iconst 1, 1) := by decide +kernel
theorem dX12_works_81 : decode mX12_works.2.1 81 = .ok (.if_icmp .ne 58, 3) := by decide +kernel
theorem dX12_works_84 : decode mX12_works.2.1 84 = .ok (.aload_n 0, 1) := by decide +kernel
theorem dX12_works_85 : decode mX12_works.2.1 85 = .ok (.iload_n 3, 1) := by decide +kernel
theorem dX12_works_86 : decode mX12_works.2.1 86 = .ok (.iconst 2, 1) := by decide +kernel
theorem dX12_works_87 : decode mX12_works.2.1 87 = .ok (.invokevirtual 278, 3) := by decide +kernel
theorem dX12_works_90 : decode mX12_works.2.1 90 = .ok (.goto 49, 3) := by decide +kernel
theorem dX12_works_93 : decode mX12_works.2.1 93 = .ok (.aload_n 0, 1) := by decide +kernel
theorem dX12_works_94 : decode mX12_works.2.1 94 = .ok (.getfield 7, 3) := by decide +kernel
theorem dX12_works_97 : decode mX12_works.2.1 97 = .ok (.sipush 448, 3) := by decide +kernel
theorem dX12_works_100 : decode mX12_works.2.1 100 = .ok (.iload_n 3, 1) := by decide +kernel
theorem dX12_works_101 : decode mX12_works.2.1 101 = .ok (.iadd, 1) := by decide +kernel
theorem dX12_works_102 : decode mX12_works.2.1 102 = .ok (.dup2, 1) := by decide +kernel
theorem dX12_works_103 : decode mX12_works.2.1 103 = .ok (.iaload, 1) := by decide +kernel
theorem dX12_works_104 : decode mX12_works.2.1 104 = .ok (.aload_n 0, 1) := by decide +kernel
theorem dX12_works_105 : decode mX12_works.2.1 105 = .ok (.getfield 7, 3) := by decide +kernel
theorem dX12_works_108 : decode mX12_works.2.1 108 = .ok (.sipush 192, 3) := by decide +kernel
theorem dX12_works_111 : decode mX12_works.2.1 111 = .ok (.iload_n 3, 1) := by decide +kernel
theorem dX12_works_112 : decode mX12_works.2.1 112 = .ok (.iadd, 1) := by decide +kernel
theorem dX12_works_113 : decode mX12_works.2.1 113 = .ok (.iaload, 1) := by decide +kernel
theorem dX12_works_114 : decode mX12_works.2.1 114 = .ok (.iconst 1, 1) := by decide +kernel
theorem dX12_works_115 : decode mX12_works.2.1 115 = .ok (.if_icmp .ne 12, 3) := by decide +kernel
theorem dX12_works_118 : decode mX12_works.2.1 118 = .ok (.aload_n 0, 1) := by decide +kernel
theorem dX12_works_119 : decode mX12_works.2.1 119 = .ok (.getfield 61, 3) := by decide +kernel
theorem dX12_works_122 : decode mX12_works.2.1 122 = .ok (.iload_n 2, 1) := by decide +kernel
theorem dX12_works_123 : decode mX12_works.2.1 123 = .ok (.iaload, 1) := by decide +kernel
theorem dX12_works_124 : decode mX12_works.2.1 124 = .ok (.goto 4, 3) := by decide +kernel
theorem dX12_works_127 : decode mX12_works.2.1 127 = .ok (.iconst 0, 1) := by decide +kernel
theorem dX12_works_128 : decode mX12_works.2.1 128 = .ok (.iadd, 1) := by decide +kernel
theorem dX12_works_129 : decode mX12_works.2.1 129 = .ok (.iastore, 1) := by decide +kernel
theorem dX12_works_130 : decode mX12_works.2.1 130 = .ok (.goto 9, 3) := by decide +kernel
theorem dX12_works_133 : decode mX12_works.2.1 133 = .ok (.aload_n 0, 1) := by decide +kernel
theorem dX12_works_134 : decode mX12_works.2.1 134 = .ok (.iload_n 1, 1) := by decide +kernel
theorem dX12_works_135 : decode mX12_works.2.1 135 = .ok (.iload_n 3, 1) := by decide +kernel
theorem dX12_works_136 : decode mX12_works.2.1 136 = .ok (.invokevirtual 281, 3) := by decide +kernel
theorem dX12_works_139 : decode mX12_works.2.1 139 = .ok (.aload_n 0, 1) := by decide +kernel
theorem dX12_works_140 : decode mX12_works.2.1 140 = .ok (.getfield 7, 3) := by decide +kernel
theorem dX12_works_143 : decode mX12_works.2.1 143 = .ok (.sipush 1504, 3) := by decide +kernel
theorem dX12_works_146 : decode mX12_works.2.1 146 = .ok (.iload_n 2, 1) := by decide +kernel
theorem dX12_works_147 : decode mX12_works.2.1 147 = .ok (.iadd, 1) := by decide +kernel
theorem dX12_works_148 : decode mX12_works.2.1 148 = .ok (.iconst 2, 1) := by decide +kernel
theorem dX12_works_149 : decode mX12_works.2.1 149 = .ok (.iastore, 1) := by decide +kernel
theorem dX12_works_150 : decode mX12_works.2.1 150 = .ok (.aload_n 0, 1) := by decide +kernel
theorem dX12_works_151 : decode mX12_works.2.1 151 = .ok (.getfield 7, 3) := by decide +kernel
theorem dX12_works_154 : decode mX12_works.2.1 154 = .ok (.sipush 984, 3) := by decide +kernel
theorem dX12_works_157 : decode mX12_works.2.1 157 = .ok (.iload_n 1, 1) := by decide +kernel
theorem dX12_works_158 : decode mX12_works.2.1 158 = .ok (.iadd, 1) := by decide +kernel
theorem dX12_works_159 : decode mX12_works.2.1 159 = .ok (.iconst (-1), 1) := by decide +kernel
theorem dX12_works_160 : decode mX12_works.2.1 160 = .ok (.iastore, 1) := by decide +kernel
theorem dX12_works_161 : decode mX12_works.2.1 161 = .ok (.aload_n 0, 1) := by decide +kernel
theorem dX12_works_162 : decode mX12_works.2.1 162 = .ok (.getfield 7, 3) := by decide +kernel
theorem dX12_works_165 : decode mX12_works.2.1 165 = .ok (.sipush 976, 3) := by decide +kernel
theorem dX12_works_168 : decode mX12_works.2.1 168 = .ok (.iload_n 1, 1) := by decide +kernel
theorem dX12_works_169 : decode mX12_works.2.1 169 = .ok (.iadd, 1) := by decide +kernel
theorem dX12_works_170 : decode mX12_works.2.1 170 = .ok (.iconst 0, 1) := by decide +kernel
theorem dX12_works_171 : decode mX12_works.2.1 171 = .ok (.iastore, 1) := by decide +kernel
theorem dX12_works_172 : decode mX12_works.2.1 172 = .ok (.return_, 1) := by decide +kernel
theorem dX12_enters_0 : decode mX12_enters.2.1 0 = .ok (.aload_n 0, 1) := by decide +kernel
theorem dX12_enters_1 : decode mX12_enters.2.1 1 = .ok (.getfield 7, 3) := by decide +kernel
theorem dX12_enters_4 : decode mX12_enters.2.1 4 = .ok (.sipush 968, 3) := by decide +kernel
theorem dX12_enters_7 : decode mX12_enters.2.1 7 = .ok (.iload_n 1, 1) := by decide +kernel
theorem dX12_enters_8 : decode mX12_enters.2.1 8 = .ok (.iadd, 1) := by decide +kernel
theorem dX12_enters_9 : decode mX12_enters.2.1 9 = .ok (.dup2, 1) := by decide +kernel
theorem dX12_enters_10 : decode mX12_enters.2.1 10 = .ok (.iaload, 1) := by decide +kernel
theorem dX12_enters_11 : decode mX12_enters.2.1 11 = .ok (.iconst 1, 1) := by decide +kernel
theorem dX12_enters_12 : decode mX12_enters.2.1 12 = .ok (.isub, 1) := by decide +kernel
theorem dX12_enters_13 : decode mX12_enters.2.1 13 = .ok (.iastore, 1) := by decide +kernel
theorem dX12_enters_14 : decode mX12_enters.2.1 14 = .ok (.aload_n 0, 1) := by decide +kernel
theorem dX12_enters_15 : decode mX12_enters.2.1 15 = .ok (.getfield 7, 3) := by decide +kernel
theorem dX12_enters_18 : decode mX12_enters.2.1 18 = .ok (.sipush 960, 3) := by decide +kernel
theorem dX12_enters_21 : decode mX12_enters.2.1 21 = .ok (.iload_n 1, 1) := by decide +kernel
theorem dX12_enters_22 : decode mX12_enters.2.1 22 = .ok (.iadd, 1) := by decide +kernel
theorem dX12_enters_23 : decode mX12_enters.2.1 23 = .ok (.iload_n 2, 1) := by decide +kernel
theorem dX12_enters_24 : decode mX12_enters.2.1 24 = .ok (.iastore, 1) := by decide +kernel
theorem dX12_enters_25 : decode mX12_enters.2.1 25 = .ok (.aload_n 0, 1) := by decide +kernel
theorem dX12_enters_26 : decode mX12_enters.2.1 26 = .ok (.getfield 7, 3) := by decide +kernel
theorem dX12_enters_29 : decode mX12_enters.2.1 29 = .ok (.sipush 128, 3) := by decide +kernel
theorem dX12_enters_32 : decode mX12_enters.2.1 32 = .ok (.iload_n 2, 1) := by decide +kernel
theorem dX12_enters_33 : decode mX12_enters.2.1 33 = .ok (.iadd, 1) := by decide +kernel
theorem dX12_enters_34 : decode mX12_enters.2.1 34 = .ok (.dup2, 1) := by decide +kernel
theorem dX12_enters_35 : decode mX12_enters.2.1 35 = .ok (.iaload, 1) := by decide +kernel
theorem dX12_enters_36 : decode mX12_enters.2.1 36 = .ok (.aload_n 0, 1) := by decide +kernel
theorem dX12_enters_37 : decode mX12_enters.2.1 37 = .ok (.iload_n 1, 1) := by decide +kernel
theorem dX12_enters_38 : decode mX12_enters.2.1 38 = .ok (.iload_n 2, 1) := by decide +kernel
theorem dX12_enters_39 : decode mX12_enters.2.1 39 = .ok (.invokevirtual 241, 3) := by decide +kernel
theorem dX12_enters_42 : decode mX12_enters.2.1 42 = .ok (.iadd, 1) := by decide +kernel
theorem dX12_enters_43 : decode mX12_enters.2.1 43 = .ok (.iastore, 1) := by decide +kernel
theorem dX12_enters_44 : decode mX12_enters.2.1 44 = .ok (.aload_n 0, 1) := by decide +kernel
theorem dX12_enters_45 : decode mX12_enters.2.1 45 = .ok (.getfield 7, 3) := by decide +kernel
theorem dX12_enters_48 : decode mX12_enters.2.1 48 = .ok (.sipush 192, 3) := by decide +kernel
theorem dX12_enters_51 : decode mX12_enters.2.1 51 = .ok (.iload_n 2, 1) := by decide +kernel
theorem dX12_enters_52 : decode mX12_enters.2.1 52 = .ok (.iadd, 1) := by decide +kernel
theorem dX12_enters_53 : decode mX12_enters.2.1 53 = .ok (.iaload, 1) := by decide +kernel
theorem dX12_enters_54 : decode mX12_enters.2.1 54 = .ok (.iconst 1, 1) := by decide +kernel
theorem dX12_enters_55 : decode mX12_enters.2.1 55 = .ok (.if_icmp .ne 30, 3) := by decide +kernel
theorem dX12_enters_58 : decode mX12_enters.2.1 58 = .ok (.aload_n 0, 1) := by decide +kernel
theorem dX12_enters_59 : decode mX12_enters.2.1 59 = .ok (.getfield 7, 3) := by decide +kernel
theorem dX12_enters_62 : decode mX12_enters.2.1 62 = .ok (.sipush 128, 3) := by decide +kernel
theorem dX12_enters_65 : decode mX12_enters.2.1 65 = .ok (.iload_n 2, 1) := by decide +kernel
theorem dX12_enters_66 : decode mX12_enters.2.1 66 = .ok (.iadd, 1) := by decide +kernel
theorem dX12_enters_67 : decode mX12_enters.2.1 67 = .ok (.iaload, 1) := by decide +kernel
theorem dX12_enters_68 : decode mX12_enters.2.1 68 = .ok (.aload_n 0, 1) := by decide +kernel
theorem dX12_enters_69 : decode mX12_enters.2.1 69 = .ok (.getfield 7, 3) := by decide +kernel
theorem dX12_enters_72 : decode mX12_enters.2.1 72 = .ok (.sipush 1627, 3) := by decide +kernel
theorem dX12_enters_75 : decode mX12_enters.2.1 75 = .ok (.iaload, 1) := by decide +kernel
theorem dX12_enters_76 : decode mX12_enters.2.1 76 = .ok (.if_icmp .le 9, 3) := by decide +kernel
theorem dX12_enters_79 : decode mX12_enters.2.1 79 = .ok (.aload_n 0, 1) := by decide +kernel
theorem dX12_enters_80 : decode mX12_enters.2.1 80 = .ok (.iload_n 2, 1) := by decide +kernel
theorem dX12_enters_81 : decode mX12_enters.2.1 81 = .ok (.iconst 3, 1) := by decide +kernel
theorem dX12_enters_82 : decode mX12_enters.2.1 82 = .ok (.invokevirtual 278, 3) := by decide +kernel
theorem dX12_enters_85 : decode mX12_enters.2.1 85 = .ok (.aload_n 0, 1) := by decide +kernel
theorem dX12_enters_86 : decode mX12_enters.2.1 86 = .ok (.getfield 7, 3) := by decide +kernel
theorem dX12_enters_89 : decode mX12_enters.2.1 89 = .ok (.bipush 64, 2) := by decide +kernel
theorem dX12_enters_91 : decode mX12_enters.2.1 91 = .ok (.iload_n 2, 1) := by decide +kernel
theorem dX12_enters_92 : decode mX12_enters.2.1 92 = .ok (.iadd, 1) := by decide +kernel
theorem dX12_enters_93 : decode mX12_enters.2.1 93 = .ok (.iaload, 1) := by decide +kernel
theorem dX12_enters_94 : decode mX12_enters.2.1 94 = .ok (.aload_n 0, 1) := by decide +kernel
theorem dX12_enters_95 : decode mX12_enters.2.1 95 = .ok (.getfield 46, 3) := by decide +kernel
theorem dX12_enters_98 : decode mX12_enters.2.1 98 = .ok (.iload_n 1, 1) := by decide +kernel
theorem dX12_enters_99 : decode mX12_enters.2.1 99 = .ok (.iaload, 1) := by decide +kernel
theorem dX12_enters_100 : decode mX12_enters.2.1 100 = .ok (.if_icmp .gt 4, 3) := by decide +kernel
theorem dX12_enters_103 : decode mX12_enters.2.1 103 = .ok (.return_, 1) := by decide +kernel
theorem dX12_enters_104 : decode mX12_enters.2.1 104 = .ok (.aload_n 0, 1) := by decide +kernel
theorem dX12_enters_105 : decode mX12_enters.2.1 105 = .ok (.iload_n 1, 1) := by decide +kernel
theorem dX12_enters_106 : decode mX12_enters.2.1 106 = .ok (.invokevirtual 289, 3) := by decide +kernel
theorem dX12_enters_109 : decode mX12_enters.2.1 109 = .ok (.aload_n 0, 1) := by decide +kernel
theorem dX12_enters_110 : decode mX12_enters.2.1 110 = .ok (.getfield 7, 3) := by decide +kernel
theorem dX12_enters_113 : decode mX12_enters.2.1 113 = .ok (.sipush 976, 3) := by decide +kernel
theorem dX12_enters_116 : decode mX12_enters.2.1 116 = .ok (.iload_n 1, 1) := by decide +kernel
theorem dX12_enters_117 : decode mX12_enters.2.1 117 = .ok (.iadd, 1) := by decide +kernel
theorem dX12_enters_118 : decode mX12_enters.2.1 118 = .ok (.iconst 4, 1) := by decide +kernel
theorem dX12_enters_119 : decode mX12_enters.2.1 119 = .ok (.iastore, 1) := by decide +kernel
theorem dX12_enters_120 : decode mX12_enters.2.1 120 = .ok (.iconst 0, 1) := by decide +kernel
theorem dX12_enters_121 : decode mX12_enters.2.1 121 = .ok (.istore_n 3, 1) := by decide +kernel
theorem dX12_enters_122 : decode mX12_enters.2.1 122 = .ok (.iload_n 3, 1) := by decide +kernel
theorem dX12_enters_123 : decode mX12_enters.2.1 123 = .ok (.aload_n 0, 1) := by decide +kernel
theorem dX12_enters_124 : decode mX12_enters.2.1 124 = .ok (.getfield 7, 3) := by decide +kernel
theorem dX12_enters_127 : decode mX12_enters.2.1 127 = .ok (.sipush 1631, 3) := by decide +kernel
theorem dX12_enters_130 : decode mX12_enters.2.1 130 = .ok (.iaload, 1) := by decide +kernel
theorem dX12_enters_131 : decode mX12_enters.2.1 131 = .ok (.if_icmp .ge 59, 3) := by decide +kernel
theorem dX12_enters_134 : decode mX12_enters.2.1 134 = .ok (.aload_n 0, 1) := by decide +kernel
theorem dX12_enters_135 : decode mX12_enters.2.1 135 = .ok (.iconst 1, 1) := by decide +kernel
theorem dX12_enters_136 : decode mX12_enters.2.1 136 = .ok (.iload_n 3, 1) := by decide +kernel
theorem dX12_enters_137 : decode mX12_enters.2.1 137 = .ok (.invokevirtual 188, 3) := by decide +kernel
theorem dX12_enters_140 : decode mX12_enters.2.1 140 = .ok (.ifCond .ne 44, 3) := by decide +kernel
theorem dX12_enters_143 : decode mX12_enters.2.1 143 = .ok (.aload_n 0, 1) := by decide +kernel
theorem dX12_enters_144 : decode mX12_enters.2.1 144 = .ok (.getfield 7, 3) := by decide +kernel
theorem dX12_enters_147 : decode mX12_enters.2.1 147 = .ok (.sipush 960, 3) := by decide +kernel
theorem dX12_enters_150 : decode mX12_enters.2.1 150 = .ok (.iload_n 3, 1) := by decide +kernel
theorem dX12_enters_151 : decode mX12_enters.2.1 151 = .ok (.iadd, 1) := by decide +kernel
theorem dX12_enters_152 : decode mX12_enters.2.1 152 = .ok (.iaload, 1) := by decide +kernel
theorem dX12_enters_153 : decode mX12_enters.2.1 153 = .ok (.iload_n 2, 1) := by decide +kernel
theorem dX12_enters_154 : decode mX12_enters.2.1 154 = .ok (.invokestatic 245, 3) := by decide +kernel
theorem dX12_enters_157 : decode mX12_enters.2.1 157 = .ok (.aload_n 0, 1) := by decide +kernel
theorem dX12_enters_158 : decode mX12_enters.2.1 158 = .ok (.getfield 7, 3) := by decide +kernel
theorem dX12_enters_161 : decode mX12_enters.2.1 161 = .ok (.sipush 1629, 3) := by decide +kernel
theorem dX12_enters_164 : decode mX12_enters.2.1 164 = .ok (.iaload, 1) := by decide +kernel
theorem dX12_enters_165 : decode mX12_enters.2.1 165 = .ok (.if_icmp .gt 19, 3) := by decide +kernel
theorem dX12_enters_168 : decode mX12_enters.2.1 168 = .ok (.aload_n 0, 1) := by decide +kernel
theorem dX12_enters_169 : decode mX12_enters.2.1 169 = .ok (.getfield 7, 3) := by decide +kernel
theorem dX12_enters_172 : decode mX12_enters.2.1 172 = .ok (.sipush 992, 3) := by decide +kernel
theorem dX12_enters_175 : decode mX12_enters.2.1 175 = .ok (.bipush 64, 2) := by decide +kernel
theorem dX12_enters_177 : decode mX12_enters.2.1 177 = .ok (.iload_n 3, 1) := by decide +kernel
theorem dX12_enters_178 : decode mX12_enters.2.1 178 = .ok (.imul, 1) := by decide +kernel
theorem dX12_enters_179 : decode mX12_enters.2.1 179 = .ok (.iadd, 1) := by decide +kernel
theorem dX12_enters_180 : decode mX12_enters.2.1 180 = .ok (.iload_n 2, 1) := by decide +kernel
theorem dX12_enters_181 : decode mX12_enters.2.1 181 = .ok (.iadd, 1) := by decide +kernel
theorem dX12_enters_182 : decode mX12_enters.2.1 182 = .ok (.iconst 1, 1) := by decide +kernel
theorem dX12_enters_183 : decode mX12_enters.2.1 183 = .ok (.iastore, 1) := by decide +kernel
theorem dX12_enters_184 : decode mX12_enters.2.1 184 = .ok (.iinc 3 1, 3) := by decide +kernel
theorem dX12_enters_187 : decode mX12_enters.2.1 187 = .ok (.goto (-65), 3) := by decide +kernel
theorem dX12_enters_190 : decode mX12_enters.2.1 190 = .ok (.return_, 1) := by decide +kernel
theorem dX12_ends_0 : decode mX12_ends.2.1 0 = .ok (.iconst 0, 1) := by decide +kernel
theorem dX12_ends_1 : decode mX12_ends.2.1 1 = .ok (.istore_n 1, 1) := by decide +kernel
theorem dX12_ends_2 : decode mX12_ends.2.1 2 = .ok (.iload_n 1, 1) := by decide +kernel
theorem dX12_ends_3 : decode mX12_ends.2.1 3 = .ok (.bipush 64, 2) := by decide +kernel
theorem dX12_ends_5 : decode mX12_ends.2.1 5 = .ok (.if_icmp .ge 55, 3) := by decide +kernel
theorem dX12_ends_8 : decode mX12_ends.2.1 8 = .ok (.aload_n 0, 1) := by decide +kernel
theorem dX12_ends_9 : decode mX12_ends.2.1 9 = .ok (.getfield 94, 3) := by decide +kernel
theorem dX12_ends_12 : decode mX12_ends.2.1 12 = .ok (.iload_n 1, 1) := by decide +kernel
theorem dX12_ends_13 : decode mX12_ends.2.1 13 = .ok (.aload_n 0, 1) := by decide +kernel
theorem dX12_ends_14 : decode mX12_ends.2.1 14 = .ok (.getfield 7, 3) := by decide +kernel
theorem dX12_ends_17 : decode mX12_ends.2.1 17 = .ok (.sipush 192, 3) := by decide +kernel
theorem dX12_ends_20 : decode mX12_ends.2.1 20 = .ok (.iload_n 1, 1) := by decide +kernel
theorem dX12_ends_21 : decode mX12_ends.2.1 21 = .ok (.iadd, 1) := by decide +kernel
theorem dX12_ends_22 : decode mX12_ends.2.1 22 = .ok (.iaload, 1) := by decide +kernel
theorem dX12_ends_23 : decode mX12_ends.2.1 23 = .ok (.iconst 1, 1) := by decide +kernel
theorem dX12_ends_24 : decode mX12_ends.2.1 24 = .ok (.if_icmp .ne 21, 3) := by decide +kernel
theorem dX12_ends_27 : decode mX12_ends.2.1 27 = .ok (.aload_n 0, 1) := by decide +kernel
theorem dX12_ends_28 : decode mX12_ends.2.1 28 = .ok (.getfield 7, 3) := by decide +kernel
theorem dX12_ends_31 : decode mX12_ends.2.1 31 = .ok (.sipush 320, 3) := by decide +kernel
theorem dX12_ends_34 : decode mX12_ends.2.1 34 = .ok (.iload_n 1, 1) := by decide +kernel
theorem dX12_ends_35 : decode mX12_ends.2.1 35 = .ok (.iadd, 1) := by decide +kernel
theorem dX12_ends_36 : decode mX12_ends.2.1 36 = .ok (.iaload, 1) := by decide +kernel
theorem dX12_ends_37 : decode mX12_ends.2.1 37 = .ok (.iconst 1, 1) := by decide +kernel
theorem dX12_ends_38 : decode mX12_ends.2.1 38 = .ok (.if_icmp .ne 7, 3) := by decide +kernel
theorem dX12_ends_41 : decode mX12_ends.2.1 41 = .ok (.iconst 1, 1) := by decide +kernel
theorem dX12_ends_42 : decode mX12_ends.2.1 42 = .ok (.goto 4, 3) := by decide +kernel
theorem dX12_ends_45 : decode mX12_ends.2.1 45 = .ok (.iconst 0, 1) := by decide +kernel
theorem dX12_ends_46 : decode mX12_ends.2.1 46 = .ok (.bastore, 1) := by decide +kernel
theorem dX12_ends_47 : decode mX12_ends.2.1 47 = .ok (.aload_n 0, 1) := by decide +kernel
theorem dX12_ends_48 : decode mX12_ends.2.1 48 = .ok (.getfield 97, 3) := by decide +kernel
theorem dX12_ends_51 : decode mX12_ends.2.1 51 = .ok (.iload_n 1, 1) := by decide +kernel
theorem dX12_ends_52 : decode mX12_ends.2.1 52 = .ok (.iconst 0, 1) := by decide +kernel
theorem dX12_ends_53 : decode mX12_ends.2.1 53 = .ok (.bastore, 1) := by decide +kernel
theorem dX12_ends_54 : decode mX12_ends.2.1 54 = .ok (.iinc 1 1, 3) := by decide +kernel
theorem dX12_ends_57 : decode mX12_ends.2.1 57 = .ok (.goto (-55), 3) := by decide +kernel
theorem dX12_ends_60 : decode mX12_ends.2.1 60 = .ok (.iconst 0, 1) := by decide +kernel
theorem dX12_ends_61 : decode mX12_ends.2.1 61 = .ok (.istore_n 1, 1) := by decide +kernel
theorem dX12_ends_62 : decode mX12_ends.2.1 62 = .ok (.iload_n 1, 1) := by decide +kernel
theorem dX12_ends_63 : decode mX12_ends.2.1 63 = .ok (.bipush 64, 2) := by decide +kernel
theorem dX12_ends_65 : decode mX12_ends.2.1 65 = .ok (.if_icmp .ge 44, 3) := by decide +kernel
theorem dX12_ends_68 : decode mX12_ends.2.1 68 = .ok (.aload_n 0, 1) := by decide +kernel
theorem dX12_ends_69 : decode mX12_ends.2.1 69 = .ok (.getfield 7, 3) := by decide +kernel
theorem dX12_ends_72 : decode mX12_ends.2.1 72 = .ok (.sipush 192, 3) := by decide +kernel
theorem dX12_ends_75 : decode mX12_ends.2.1 75 = .ok (.iload_n 1, 1) := by decide +kernel
theorem dX12_ends_76 : decode mX12_ends.2.1 76 = .ok (.iadd, 1) := by decide +kernel
theorem dX12_ends_77 : decode mX12_ends.2.1 77 = .ok (.iaload, 1) := by decide +kernel
theorem dX12_ends_78 : decode mX12_ends.2.1 78 = .ok (.iconst 1, 1) := by decide +kernel
theorem dX12_ends_79 : decode mX12_ends.2.1 79 = .ok (.if_icmp .ne 24, 3) := by decide +kernel
theorem dX12_ends_82 : decode mX12_ends.2.1 82 = .ok (.aload_n 0, 1) := by decide +kernel
theorem dX12_ends_83 : decode mX12_ends.2.1 83 = .ok (.getfield 7, 3) := by decide +kernel
theorem dX12_ends_86 : decode mX12_ends.2.1 86 = .ok (.bipush 64, 2) := by decide +kernel
theorem dX12_ends_88 : decode mX12_ends.2.1 88 = .ok (.iload_n 1, 1) := by decide +kernel
theorem dX12_ends_89 : decode mX12_ends.2.1 89 = .ok (.iadd, 1) := by decide +kernel
theorem dX12_ends_90 : decode mX12_ends.2.1 90 = .ok (.iaload, 1) := by decide +kernel
theorem dX12_ends_91 : decode mX12_ends.2.1 91 = .ok (.sipush 600, 3) := by decide +kernel
theorem dX12_ends_94 : decode mX12_ends.2.1 94 = .ok (.if_icmp .le 9, 3) := by decide +kernel
theorem dX12_ends_97 : decode mX12_ends.2.1 97 = .ok (.aload_n 0, 1) := by decide +kernel
theorem dX12_ends_98 : decode mX12_ends.2.1 98 = .ok (.iload_n 1, 1) := by decide +kernel
theorem dX12_ends_99 : decode mX12_ends.2.1 99 = .ok (.iconst 4, 1) := by decide +kernel
theorem dX12_ends_100 : decode mX12_ends.2.1 100 = .ok (.invokevirtual 278, 3) := by decide +kernel
theorem dX12_ends_103 : decode mX12_ends.2.1 103 = .ok (.iinc 1 1, 3) := by decide +kernel
theorem dX12_ends_106 : decode mX12_ends.2.1 106 = .ok (.goto (-44), 3) := by decide +kernel
theorem dX12_ends_109 : decode mX12_ends.2.1 109 = .ok (.iconst 0, 1) := by decide +kernel
theorem dX12_ends_110 : decode mX12_ends.2.1 110 = .ok (.istore_n 1, 1) := by decide +kernel
theorem dX12_ends_111 : decode mX12_ends.2.1 111 = .ok (.iload_n 1, 1) := by decide +kernel
theorem dX12_ends_112 : decode mX12_ends.2.1 112 = .ok (.bipush 64, 2) := by decide +kernel
theorem dX12_ends_114 : decode mX12_ends.2.1 114 = .ok (.if_icmp .ge 125, 3) := by decide +kernel
theorem dX12_ends_117 : decode mX12_ends.2.1 117 = .ok (.aload_n 0, 1) := by decide +kernel
theorem dX12_ends_118 : decode mX12_ends.2.1 118 = .ok (.getfield 7, 3) := by decide +kernel
theorem dX12_ends_121 : decode mX12_ends.2.1 121 = .ok (.sipush 192, 3) := by decide +kernel
theorem dX12_ends_124 : decode mX12_ends.2.1 124 = .ok (.iload_n 1, 1) := by decide +kernel
theorem dX12_ends_125 : decode mX12_ends.2.1 125 = .ok (.iadd, 1) := by decide +kernel
theorem dX12_ends_126 : decode mX12_ends.2.1 126 = .ok (.iaload, 1) := by decide +kernel
theorem dX12_ends_127 : decode mX12_ends.2.1 127 = .ok (.ifCond .eq 106, 3) := by decide +kernel
theorem dX12_ends_130 : decode mX12_ends.2.1 130 = .ok (.aload_n 0, 1) := by decide +kernel
theorem dX12_ends_131 : decode mX12_ends.2.1 131 = .ok (.getfield 94, 3) := by decide +kernel
theorem dX12_ends_134 : decode mX12_ends.2.1 134 = .ok (.iload_n 1, 1) := by decide +kernel
theorem dX12_ends_135 : decode mX12_ends.2.1 135 = .ok (.baload, 1) := by decide +kernel
theorem dX12_ends_136 : decode mX12_ends.2.1 136 = .ok (.ifCond .eq 6, 3) := by decide +kernel
theorem dX12_ends_139 : decode mX12_ends.2.1 139 = .ok (.goto 94, 3) := by decide +kernel
theorem dX12_ends_142 : decode mX12_ends.2.1 142 = .ok (.iconst 0, 1) := by decide +kernel
theorem dX12_ends_143 : decode mX12_ends.2.1 143 = .ok (.istore_n 2, 1) := by decide +kernel
theorem dX12_ends_144 : decode mX12_ends.2.1 144 = .ok (.iload_n 2, 1) := by decide +kernel
theorem dX12_ends_145 : decode mX12_ends.2.1 145 = .ok (.iconst 4, 1) := by decide +kernel
theorem dX12_ends_146 : decode mX12_ends.2.1 146 = .ok (.if_icmp .ge 87, 3) := by decide +kernel
theorem dX12_ends_149 : decode mX12_ends.2.1 149 = .ok (.aload_n 0, 1) := by decide +kernel
theorem dX12_ends_150 : decode mX12_ends.2.1 150 = .ok (.getfield 7, 3) := by decide +kernel
theorem dX12_ends_153 : decode mX12_ends.2.1 153 = .ok (.sipush 1633, 3) := by decide +kernel
theorem dX12_ends_156 : decode mX12_ends.2.1 156 = .ok (.iaload, 1) := by decide +kernel
theorem dX12_ends_157 : decode mX12_ends.2.1 157 = .ok (.ifCond .le 76, 3) := by decide +kernel
theorem dX12_ends_160 : decode mX12_ends.2.1 160 = .ok (.iload_n 1, 1) := by decide +kernel
theorem dX12_ends_161 : decode mX12_ends.2.1 161 = .ok (.iload_n 2, 1) := by decide +kernel
theorem dX12_ends_162 : decode mX12_ends.2.1 162 = .ok (.invokestatic 257, 3) := by decide +kernel
theorem dX12_ends_165 : decode mX12_ends.2.1 165 = .ok (.iconst (-1), 1) := by decide +kernel
theorem dX12_ends_166 : decode mX12_ends.2.1 166 = .ok (.if_icmp .eq 61, 3) := by decide +kernel
theorem dX12_ends_169 : decode mX12_ends.2.1 169 = .ok (.aload_n 0, 1) := by decide +kernel
theorem dX12_ends_170 : decode mX12_ends.2.1 170 = .ok (.getfield 94, 3) := by decide +kernel
theorem dX12_ends_173 : decode mX12_ends.2.1 173 = .ok (.iload_n 1, 1) := by decide +kernel
theorem dX12_ends_174 : decode mX12_ends.2.1 174 = .ok (.iload_n 2, 1) := by decide +kernel
theorem dX12_ends_175 : decode mX12_ends.2.1 175 = .ok (.invokestatic 257, 3) := by decide +kernel
theorem dX12_ends_178 : decode mX12_ends.2.1 178 = .ok (.baload, 1) := by decide +kernel
theorem dX12_ends_179 : decode mX12_ends.2.1 179 = .ok (.ifCond .eq 48, 3) := by decide +kernel
theorem dX12_ends_182 : decode mX12_ends.2.1 182 = .ok (.aload_n 0, 1) := by decide +kernel
theorem dX12_ends_183 : decode mX12_ends.2.1 183 = .ok (.getfield 7, 3) := by decide +kernel
theorem dX12_ends_186 : decode mX12_ends.2.1 186 = .ok (.sipush 192, 3) := by decide +kernel
theorem dX12_ends_189 : decode mX12_ends.2.1 189 = .ok (.iload_n 1, 1) := by decide +kernel
theorem dX12_ends_190 : decode mX12_ends.2.1 190 = .ok (.iload_n 2, 1) := by decide +kernel
theorem dX12_ends_191 : decode mX12_ends.2.1 191 = .ok (.invokestatic 257, 3) := by decide +kernel
theorem dX12_ends_194 : decode mX12_ends.2.1 194 = .ok (.iadd, 1) := by decide +kernel
theorem dX12_ends_195 : decode mX12_ends.2.1 195 = .ok (.iaload, 1) := by decide +kernel
theorem dX12_ends_196 : decode mX12_ends.2.1 196 = .ok (.iconst 1, 1) := by decide +kernel
theorem dX12_ends_197 : decode mX12_ends.2.1 197 = .ok (.if_icmp .ne 30, 3) := by decide +kernel
theorem dX12_ends_200 : decode mX12_ends.2.1 200 = .ok (.aload_n 0, 1) := by decide +kernel
theorem dX12_ends_201 : decode mX12_ends.2.1 201 = .ok (.getfield 97, 3) := by decide +kernel
theorem dX12_ends_204 : decode mX12_ends.2.1 204 = .ok (.iload_n 1, 1) := by decide +kernel
theorem dX12_ends_205 : decode mX12_ends.2.1 205 = .ok (.aload_n 0, 1) := by decide +kernel
theorem dX12_ends_206 : decode mX12_ends.2.1 206 = .ok (.invokevirtual 298, 3) := by decide +kernel
theorem dX12_ends_209 : decode mX12_ends.2.1 209 = .ok (.ifCond .ne 12, 3) := by decide +kernel
theorem dX12_ends_212 : decode mX12_ends.2.1 212 = .ok (.aload_n 0, 1) := by decide +kernel
theorem dX12_ends_213 : decode mX12_ends.2.1 213 = .ok (.getfield 97, 3) := by decide +kernel
theorem dX12_ends_216 : decode mX12_ends.2.1 216 = .ok (.iload_n 1, 1) := by decide +kernel
theorem dX12_ends_217 : decode mX12_ends.2.1 217 = .ok (.baload, 1) := by decide +kernel
theorem dX12_ends_218 : decode mX12_ends.2.1 218 = .ok (.ifCond .eq 7, 3) := by decide +kernel
theorem dX12_ends_221 : decode mX12_ends.2.1 221 = .ok (.iconst 1, 1) := by decide +kernel
theorem dX12_ends_222 : decode mX12_ends.2.1 222 = .ok (.goto 4, 3) := by decide +kernel
theorem dX12_ends_225 : decode mX12_ends.2.1 225 = .ok (.iconst 0, 1) := by decide +kernel
theorem dX12_ends_226 : decode mX12_ends.2.1 226 = .ok (.bastore, 1) := by decide +kernel
theorem dX12_ends_227 : decode mX12_ends.2.1 227 = .ok (.iinc 2 1, 3) := by decide +kernel
theorem dX12_ends_230 : decode mX12_ends.2.1 230 = .ok (.goto (-86), 3) := by decide +kernel
theorem dX12_ends_233 : decode mX12_ends.2.1 233 = .ok (.iinc 1 1, 3) := by decide +kernel
theorem dX12_ends_236 : decode mX12_ends.2.1 236 = .ok (.goto (-125), 3) := by decide +kernel
theorem dX12_ends_239 : decode mX12_ends.2.1 239 = .ok (.iconst 0, 1) := by decide +kernel
theorem dX12_ends_240 : decode mX12_ends.2.1 240 = .ok (.istore_n 1, 1) := by decide +kernel
theorem dX12_ends_241 : decode mX12_ends.2.1 241 = .ok (.iload_n 1, 1) := by decide +kernel
theorem dX12_ends_242 : decode mX12_ends.2.1 242 = .ok (.bipush 64, 2) := by decide +kernel
theorem dX12_ends_244 : decode mX12_ends.2.1 244 = .ok (.if_icmp .ge 83, 3) := by decide +kernel
theorem dX12_ends_247 : decode mX12_ends.2.1 247 = .ok (.aload_n 0, 1) := by decide +kernel
theorem dX12_ends_248 : decode mX12_ends.2.1 248 = .ok (.getfield 7, 3) := by decide +kernel
theorem dX12_ends_251 : decode mX12_ends.2.1 251 = .ok (.sipush 192, 3) := by decide +kernel
theorem dX12_ends_254 : decode mX12_ends.2.1 254 = .ok (.iload_n 1, 1) := by decide +kernel
theorem dX12_ends_255 : decode mX12_ends.2.1 255 = .ok (.iadd, 1) := by decide +kernel
theorem dX12_ends_256 : decode mX12_ends.2.1 256 = .ok (.iaload, 1) := by decide +kernel
theorem dX12_ends_257 : decode mX12_ends.2.1 257 = .ok (.ifCond .ne 6, 3) := by decide +kernel
theorem dX12_ends_260 : decode mX12_ends.2.1 260 = .ok (.goto 61, 3) := by decide +kernel
theorem dX12_ends_263 : decode mX12_ends.2.1 263 = .ok (.aload_n 0, 1) := by decide +kernel
theorem dX12_ends_264 : decode mX12_ends.2.1 264 = .ok (.getfield 97, 3) := by decide +kernel
theorem dX12_ends_267 : decode mX12_ends.2.1 267 = .ok (.iload_n 1, 1) := by decide +kernel
theorem dX12_ends_268 : decode mX12_ends.2.1 268 = .ok (.baload, 1) := by decide +kernel
theorem dX12_ends_269 : decode mX12_ends.2.1 269 = .ok (.ifCond .eq 14, 3) := by decide +kernel
theorem dX12_ends_272 : decode mX12_ends.2.1 272 = .ok (.aload_n 0, 1) := by decide +kernel
theorem dX12_ends_273 : decode mX12_ends.2.1 273 = .ok (.getfield 7, 3) := by decide +kernel
theorem dX12_ends_276 : decode mX12_ends.2.1 276 = .ok (.sipush 320, 3) := by decide +kernel
theorem dX12_ends_279 : decode mX12_ends.2.1 279 = .ok (.iload_n 1, 1) := by decide +kernel
theorem dX12_ends_280 : decode mX12_ends.2.1 280 = .ok (.iadd, 1) := by decide +kernel
theorem dX12_ends_281 : decode mX12_ends.2.1 281 = .ok (.iconst 1, 1) := by decide +kernel
theorem dX12_ends_282 : decode mX12_ends.2.1 282 = .ok (.iastore, 1) := by decide +kernel
theorem dX12_ends_283 : decode mX12_ends.2.1 283 = .ok (.aload_n 0, 1) := by decide +kernel
theorem dX12_ends_284 : decode mX12_ends.2.1 284 = .ok (.getfield 7, 3) := by decide +kernel
theorem dX12_ends_287 : decode mX12_ends.2.1 287 = .ok (.sipush 256, 3) := by decide +kernel
theorem dX12_ends_290 : decode mX12_ends.2.1 290 = .ok (.iload_n 1, 1) := by decide +kernel
theorem dX12_ends_291 : decode mX12_ends.2.1 291 = .ok (.iadd, 1) := by decide +kernel
theorem dX12_ends_292 : decode mX12_ends.2.1 292 = .ok (.dup2, 1) := by decide +kernel
theorem dX12_ends_293 : decode mX12_ends.2.1 293 = .ok (.iaload, 1) := by decide +kernel
theorem dX12_ends_294 : decode mX12_ends.2.1 294 = .ok (.aload_n 0, 1) := by decide +kernel
theorem dX12_ends_295 : decode mX12_ends.2.1 295 = .ok (.getfield 7, 3) := by decide +kernel
theorem dX12_ends_298 : decode mX12_ends.2.1 298 = .ok (.bipush 64, 2) := by decide +kernel
theorem dX12_ends_300 : decode mX12_ends.2.1 300 = .ok (.iload_n 1, 1) := by decide +kernel
theorem dX12_ends_301 : decode mX12_ends.2.1 301 = .ok (.iadd, 1) := by decide +kernel
theorem dX12_ends_302 : decode mX12_ends.2.1 302 = .ok (.iaload, 1) := by decide +kernel
theorem dX12_ends_303 : decode mX12_ends.2.1 303 = .ok (.bipush 50, 2) := by decide +kernel
theorem dX12_ends_305 : decode mX12_ends.2.1 305 = .ok (.sipush 300, 3) := by decide +kernel
theorem dX12_ends_308 : decode mX12_ends.2.1 308 = .ok (.invokestatic 162, 3) := by decide +kernel
theorem dX12_ends_311 : decode mX12_ends.2.1 311 = .ok (.ifCond .eq 7, 3) := by decide +kernel
theorem dX12_ends_314 : decode mX12_ends.2.1 314 = .ok (.iconst 2, 1) := by decide +kernel
theorem dX12_ends_315 : decode mX12_ends.2.1 315 = .ok (.goto 4, 3) := by decide +kernel
theorem dX12_ends_318 : decode mX12_ends.2.1 318 = .ok (.iconst 1, 1) := by decide +kernel
theorem dX12_ends_319 : decode mX12_ends.2.1 319 = .ok (.iadd, 1) := by decide +kernel
theorem dX12_ends_320 : decode mX12_ends.2.1 320 = .ok (.iastore, 1) := by decide +kernel
theorem dX12_ends_321 : decode mX12_ends.2.1 321 = .ok (.iinc 1 1, 3) := by decide +kernel
theorem dX12_ends_324 : decode mX12_ends.2.1 324 = .ok (.goto (-83), 3) := by decide +kernel
theorem dX12_ends_327 : decode mX12_ends.2.1 327 = .ok (.return_, 1) := by decide +kernel
theorem dX12_feed_0 : decode mX12_feed.2.1 0 = .ok (.aload_n 0, 1) := by decide +kernel
theorem dX12_feed_1 : decode mX12_feed.2.1 1 = .ok (.getfield 360, 3) := by decide +kernel
theorem dX12_feed_4 : decode mX12_feed.2.1 4 = .ok (.bipush 20, 2) := by decide +kernel
theorem dX12_feed_6 : decode mX12_feed.2.1 6 = .ok (.iadd, 1) := by decide +kernel
theorem dX12_feed_7 : decode mX12_feed.2.1 7 = .ok (.sipush 500, 3) := by decide +kernel
theorem dX12_feed_10 : decode mX12_feed.2.1 10 = .ok (.if_icmp .le 5, 3) := by decide +kernel
theorem dX12_feed_13 : decode mX12_feed.2.1 13 = .ok (.iconst (-1), 1) := by decide +kernel
theorem dX12_feed_14 : decode mX12_feed.2.1 14 = .ok (.ireturn, 1) := by decide +kernel
theorem dX12_feed_15 : decode mX12_feed.2.1 15 = .ok (.aload_n 0, 1) := by decide +kernel
theorem dX12_feed_16 : decode mX12_feed.2.1 16 = .ok (.iload_n 1, 1) := by decide +kernel
theorem dX12_feed_17 : decode mX12_feed.2.1 17 = .ok (.invokevirtual 363, 3) := by decide +kernel
theorem dX12_feed_20 : decode mX12_feed.2.1 20 = .ok (.aload_n 0, 1) := by decide +kernel
theorem dX12_feed_21 : decode mX12_feed.2.1 21 = .ok (.iload_n 2, 1) := by decide +kernel
theorem dX12_feed_22 : decode mX12_feed.2.1 22 = .ok (.invokevirtual 363, 3) := by decide +kernel
theorem dX12_feed_25 : decode mX12_feed.2.1 25 = .ok (.aload_n 0, 1) := by decide +kernel
theorem dX12_feed_26 : decode mX12_feed.2.1 26 = .ok (.iload_n 3, 1) := by decide +kernel
theorem dX12_feed_27 : decode mX12_feed.2.1 27 = .ok (.invokevirtual 363, 3) := by decide +kernel
theorem dX12_feed_30 : decode mX12_feed.2.1 30 = .ok (.aload_n 0, 1) := by decide +kernel
theorem dX12_feed_31 : decode mX12_feed.2.1 31 = .ok (.iload 4, 2) := by decide +kernel
theorem dX12_feed_33 : decode mX12_feed.2.1 33 = .ok (.invokevirtual 363, 3) := by decide +kernel
theorem dX12_feed_36 : decode mX12_feed.2.1 36 = .ok (.aload_n 0, 1) := by decide +kernel
theorem dX12_feed_37 : decode mX12_feed.2.1 37 = .ok (.iload 5, 2) := by decide +kernel
theorem dX12_feed_39 : decode mX12_feed.2.1 39 = .ok (.invokevirtual 363, 3) := by decide +kernel
theorem dX12_feed_42 : decode mX12_feed.2.1 42 = .ok (.aload_n 0, 1) := by decide +kernel
theorem dX12_feed_43 : decode mX12_feed.2.1 43 = .ok (.getfield 360, 3) := by decide +kernel
theorem dX12_feed_46 : decode mX12_feed.2.1 46 = .ok (.ireturn, 1) := by decide +kernel
theorem dX12_held_0 : decode mX12_held.2.1 0 = .ok (.ldc2_w 467, 3) := by decide +kernel
theorem dX12_held_3 : decode mX12_held.2.1 3 = .ok (.ldc2_w 235, 3) := by decide +kernel
theorem dX12_held_6 : decode mX12_held.2.1 6 = .ok (.lload_n 0, 1) := by decide +kernel
theorem dX12_held_7 : decode mX12_held.2.1 7 = .ok (.invokestatic 262, 3) := by decide +kernel
theorem dX12_held_10 : decode mX12_held.2.1 10 = .ok (.invokestatic 469, 3) := by decide +kernel
theorem dX12_held_13 : decode mX12_held.2.1 13 = .ok (.lreturn, 1) := by decide +kernel
theorem dX12_both_0 : decode mX12_both.2.1 0 = .ok (.iload_n 0, 1) := by decide +kernel
theorem dX12_both_1 : decode mX12_both.2.1 1 = .ok (.tableswitch 144 2 9 #[47, 54, 61, 68, 82, 97, 112, 127], 47) := by decide +kernel
theorem dX12_both_48 : decode mX12_both.2.1 48 = .ok (.lload_n 1, 1) := by decide +kernel
theorem dX12_both_49 : decode mX12_both.2.1 49 = .ok (.lload_n 3, 1) := by decide +kernel
theorem dX12_both_50 : decode mX12_both.2.1 50 = .ok (.ladd, 1) := by decide +kernel
theorem dX12_both_51 : decode mX12_both.2.1 51 = .ok (.invokestatic 472, 3) := by decide +kernel
theorem dX12_both_54 : decode mX12_both.2.1 54 = .ok (.lreturn, 1) := by decide +kernel
theorem dX12_both_55 : decode mX12_both.2.1 55 = .ok (.lload_n 1, 1) := by decide +kernel
theorem dX12_both_56 : decode mX12_both.2.1 56 = .ok (.lload_n 3, 1) := by decide +kernel
theorem dX12_both_57 : decode mX12_both.2.1 57 = .ok (.lsub, 1) := by decide +kernel
theorem dX12_both_58 : decode mX12_both.2.1 58 = .ok (.invokestatic 472, 3) := by decide +kernel
theorem dX12_both_61 : decode mX12_both.2.1 61 = .ok (.lreturn, 1) := by decide +kernel
theorem dX12_both_62 : decode mX12_both.2.1 62 = .ok (.lload_n 1, 1) := by decide +kernel
theorem dX12_both_63 : decode mX12_both.2.1 63 = .ok (.lload_n 3, 1) := by decide +kernel
theorem dX12_both_64 : decode mX12_both.2.1 64 = .ok (.lmul, 1) := by decide +kernel
theorem dX12_both_65 : decode mX12_both.2.1 65 = .ok (.invokestatic 472, 3) := by decide +kernel
theorem dX12_both_68 : decode mX12_both.2.1 68 = .ok (.lreturn, 1) := by decide +kernel
theorem dX12_both_69 : decode mX12_both.2.1 69 = .ok (.lload_n 3, 1) := by decide +kernel
theorem dX12_both_70 : decode mX12_both.2.1 70 = .ok (.lconst 0, 1) := by decide +kernel
theorem dX12_both_71 : decode mX12_both.2.1 71 = .ok (.lcmp, 1) := by decide +kernel
theorem dX12_both_72 : decode mX12_both.2.1 72 = .ok (.ifCond .ne 7, 3) := by decide +kernel
theorem dX12_both_75 : decode mX12_both.2.1 75 = .ok (.lconst 0, 1) := by decide +kernel
theorem dX12_both_76 : decode mX12_both.2.1 76 = .ok (.goto 6, 3) := by decide +kernel
theorem dX12_both_79 : decode mX12_both.2.1 79 = .ok (.lload_n 1, 1) := by decide +kernel
theorem dX12_both_80 : decode mX12_both.2.1 80 = .ok (.lload_n 3, 1) := by decide +kernel
theorem dX12_both_81 : decode mX12_both.2.1 81 = .ok (.ldiv, 1) := by decide +kernel
theorem dX12_both_82 : decode mX12_both.2.1 82 = .ok (.lreturn, 1) := by decide +kernel
theorem dX12_both_83 : decode mX12_both.2.1 83 = .ok (.lload_n 1, 1) := by decide +kernel
theorem dX12_both_84 : decode mX12_both.2.1 84 = .ok (.lload_n 3, 1) := by decide +kernel
theorem dX12_both_85 : decode mX12_both.2.1 85 = .ok (.lcmp, 1) := by decide +kernel
theorem dX12_both_86 : decode mX12_both.2.1 86 = .ok (.ifCond .ge 7, 3) := by decide +kernel
theorem dX12_both_89 : decode mX12_both.2.1 89 = .ok (.iconst 1, 1) := by decide +kernel
theorem dX12_both_90 : decode mX12_both.2.1 90 = .ok (.goto 4, 3) := by decide +kernel
theorem dX12_both_93 : decode mX12_both.2.1 93 = .ok (.iconst 0, 1) := by decide +kernel
theorem dX12_both_94 : decode mX12_both.2.1 94 = .ok (.invokestatic 476, 3) := by decide +kernel
theorem dX12_both_97 : decode mX12_both.2.1 97 = .ok (.lreturn, 1) := by decide +kernel
theorem dX12_both_98 : decode mX12_both.2.1 98 = .ok (.lload_n 1, 1) := by decide +kernel
theorem dX12_both_99 : decode mX12_both.2.1 99 = .ok (.lload_n 3, 1) := by decide +kernel
theorem dX12_both_100 : decode mX12_both.2.1 100 = .ok (.lcmp, 1) := by decide +kernel
theorem dX12_both_101 : decode mX12_both.2.1 101 = .ok (.ifCond .le 7, 3) := by decide +kernel
theorem dX12_both_104 : decode mX12_both.2.1 104 = .ok (.iconst 1, 1) := by decide +kernel
theorem dX12_both_105 : decode mX12_both.2.1 105 = .ok (.goto 4, 3) := by decide +kernel
theorem dX12_both_108 : decode mX12_both.2.1 108 = .ok (.iconst 0, 1) := by decide +kernel
theorem dX12_both_109 : decode mX12_both.2.1 109 = .ok (.invokestatic 476, 3) := by decide +kernel
theorem dX12_both_112 : decode mX12_both.2.1 112 = .ok (.lreturn, 1) := by decide +kernel
theorem dX12_both_113 : decode mX12_both.2.1 113 = .ok (.lload_n 1, 1) := by decide +kernel
theorem dX12_both_114 : decode mX12_both.2.1 114 = .ok (.lload_n 3, 1) := by decide +kernel
theorem dX12_both_115 : decode mX12_both.2.1 115 = .ok (.lcmp, 1) := by decide +kernel
theorem dX12_both_116 : decode mX12_both.2.1 116 = .ok (.ifCond .ne 7, 3) := by decide +kernel
theorem dX12_both_119 : decode mX12_both.2.1 119 = .ok (.iconst 1, 1) := by decide +kernel
theorem dX12_both_120 : decode mX12_both.2.1 120 = .ok (.goto 4, 3) := by decide +kernel
theorem dX12_both_123 : decode mX12_both.2.1 123 = .ok (.iconst 0, 1) := by decide +kernel
theorem dX12_both_124 : decode mX12_both.2.1 124 = .ok (.invokestatic 476, 3) := by decide +kernel
theorem dX12_both_127 : decode mX12_both.2.1 127 = .ok (.lreturn, 1) := by decide +kernel
theorem dX12_both_128 : decode mX12_both.2.1 128 = .ok (.lload_n 1, 1) := by decide +kernel
theorem dX12_both_129 : decode mX12_both.2.1 129 = .ok (.lload_n 3, 1) := by decide +kernel
theorem dX12_both_130 : decode mX12_both.2.1 130 = .ok (.ladd, 1) := by decide +kernel
theorem dX12_both_131 : decode mX12_both.2.1 131 = .ok (.lconst 0, 1) := by decide +kernel
theorem dX12_both_132 : decode mX12_both.2.1 132 = .ok (.lcmp, 1) := by decide +kernel
theorem dX12_both_133 : decode mX12_both.2.1 133 = .ok (.ifCond .le 7, 3) := by decide +kernel
theorem dX12_both_136 : decode mX12_both.2.1 136 = .ok (.iconst 1, 1) := by decide +kernel
theorem dX12_both_137 : decode mX12_both.2.1 137 = .ok (.goto 4, 3) := by decide +kernel
theorem dX12_both_140 : decode mX12_both.2.1 140 = .ok (.iconst 0, 1) := by decide +kernel
theorem dX12_both_141 : decode mX12_both.2.1 141 = .ok (.invokestatic 476, 3) := by decide +kernel
theorem dX12_both_144 : decode mX12_both.2.1 144 = .ok (.lreturn, 1) := by decide +kernel
theorem dX12_both_145 : decode mX12_both.2.1 145 = .ok (.lload_n 1, 1) := by decide +kernel
theorem dX12_both_146 : decode mX12_both.2.1 146 = .ok (.lload_n 3, 1) := by decide +kernel
theorem dX12_both_147 : decode mX12_both.2.1 147 = .ok (.ladd, 1) := by decide +kernel
theorem dX12_both_148 : decode mX12_both.2.1 148 = .ok (.ldc2_w 480, 3) := by decide +kernel
theorem dX12_both_151 : decode mX12_both.2.1 151 = .ok (.lcmp, 1) := by decide +kernel
theorem dX12_both_152 : decode mX12_both.2.1 152 = .ok (.ifCond .ne 7, 3) := by decide +kernel
theorem dX12_both_155 : decode mX12_both.2.1 155 = .ok (.iconst 1, 1) := by decide +kernel
theorem dX12_both_156 : decode mX12_both.2.1 156 = .ok (.goto 4, 3) := by decide +kernel
theorem dX12_both_159 : decode mX12_both.2.1 159 = .ok (.iconst 0, 1) := by decide +kernel
theorem dX12_both_160 : decode mX12_both.2.1 160 = .ok (.invokestatic 476, 3) := by decide +kernel
theorem dX12_both_163 : decode mX12_both.2.1 163 = .ok (.lreturn, 1) := by decide +kernel
theorem dX12_runs_0 : decode mX12_runs.2.1 0 = .ok (.iconst 0, 1) := by decide +kernel
theorem dX12_runs_1 : decode mX12_runs.2.1 1 = .ok (.istore_n 3, 1) := by decide +kernel
theorem dX12_runs_2 : decode mX12_runs.2.1 2 = .ok (.iload_n 1, 1) := by decide +kernel
theorem dX12_runs_3 : decode mX12_runs.2.1 3 = .ok (.istore 4, 2) := by decide +kernel
theorem dX12_runs_5 : decode mX12_runs.2.1 5 = .ok (.iload 4, 2) := by decide +kernel
theorem dX12_runs_7 : decode mX12_runs.2.1 7 = .ok (.iload_n 2, 1) := by decide +kernel
theorem dX12_runs_8 : decode mX12_runs.2.1 8 = .ok (.if_icmp .ge 122, 3) := by decide +kernel
theorem dX12_runs_11 : decode mX12_runs.2.1 11 = .ok (.aload_n 0, 1) := by decide +kernel
theorem dX12_runs_12 : decode mX12_runs.2.1 12 = .ok (.getfield 133, 3) := by decide +kernel
theorem dX12_runs_15 : decode mX12_runs.2.1 15 = .ok (.iload 4, 2) := by decide +kernel
theorem dX12_runs_17 : decode mX12_runs.2.1 17 = .ok (.iaload, 1) := by decide +kernel
theorem dX12_runs_18 : decode mX12_runs.2.1 18 = .ok (.istore 5, 2) := by decide +kernel
theorem dX12_runs_20 : decode mX12_runs.2.1 20 = .ok (.iload 5, 2) := by decide +kernel
theorem dX12_runs_22 : decode mX12_runs.2.1 22 = .ok (.iconst 1, 1) := by decide +kernel
theorem dX12_runs_23 : decode mX12_runs.2.1 23 = .ok (.if_icmp .gt 43, 3) := by decide +kernel
theorem dX12_runs_26 : decode mX12_runs.2.1 26 = .ok (.aload_n 0, 1) := by decide +kernel
theorem dX12_runs_27 : decode mX12_runs.2.1 27 = .ok (.getfield 139, 3) := by decide +kernel
theorem dX12_runs_30 : decode mX12_runs.2.1 30 = .ok (.iload_n 3, 1) := by decide +kernel
theorem dX12_runs_31 : decode mX12_runs.2.1 31 = .ok (.iload 5, 2) := by decide +kernel
theorem dX12_runs_33 : decode mX12_runs.2.1 33 = .ok (.ifCond .ne 14, 3) := by decide +kernel
theorem dX12_runs_36 : decode mX12_runs.2.1 36 = .ok (.aload_n 0, 1) := by decide +kernel
theorem dX12_runs_37 : decode mX12_runs.2.1 37 = .ok (.getfield 136, 3) := by decide +kernel
theorem dX12_runs_40 : decode mX12_runs.2.1 40 = .ok (.iload 4, 2) := by decide +kernel
theorem dX12_runs_42 : decode mX12_runs.2.1 42 = .ok (.iaload, 1) := by decide +kernel
theorem dX12_runs_43 : decode mX12_runs.2.1 43 = .ok (.i2l, 1) := by decide +kernel
theorem dX12_runs_44 : decode mX12_runs.2.1 44 = .ok (.goto 15, 3) := by decide +kernel
theorem dX12_runs_47 : decode mX12_runs.2.1 47 = .ok (.aload_n 0, 1) := by decide +kernel
theorem dX12_runs_48 : decode mX12_runs.2.1 48 = .ok (.getfield 142, 3) := by decide +kernel
theorem dX12_runs_51 : decode mX12_runs.2.1 51 = .ok (.aload_n 0, 1) := by decide +kernel
theorem dX12_runs_52 : decode mX12_runs.2.1 52 = .ok (.getfield 136, 3) := by decide +kernel
theorem dX12_runs_55 : decode mX12_runs.2.1 55 = .ok (.iload 4, 2) := by decide +kernel
theorem dX12_runs_57 : decode mX12_runs.2.1 57 = .ok (.iaload, 1) := by decide +kernel
theorem dX12_runs_58 : decode mX12_runs.2.1 58 = .ok (.laload, 1) := by decide +kernel
theorem dX12_runs_59 : decode mX12_runs.2.1 59 = .ok (.lastore, 1) := by decide +kernel
theorem dX12_runs_60 : decode mX12_runs.2.1 60 = .ok (.iinc 3 1, 3) := by decide +kernel
theorem dX12_runs_63 : decode mX12_runs.2.1 63 = .ok (.goto 61, 3) := by decide +kernel
theorem dX12_runs_66 : decode mX12_runs.2.1 66 = .ok (.iload 5, 2) := by decide +kernel
theorem dX12_runs_68 : decode mX12_runs.2.1 68 = .ok (.bipush 11, 2) := by decide +kernel
theorem dX12_runs_70 : decode mX12_runs.2.1 70 = .ok (.if_icmp .ne 24, 3) := by decide +kernel
theorem dX12_runs_73 : decode mX12_runs.2.1 73 = .ok (.aload_n 0, 1) := by decide +kernel
theorem dX12_runs_74 : decode mX12_runs.2.1 74 = .ok (.getfield 139, 3) := by decide +kernel
theorem dX12_runs_77 : decode mX12_runs.2.1 77 = .ok (.iload_n 3, 1) := by decide +kernel
theorem dX12_runs_78 : decode mX12_runs.2.1 78 = .ok (.iconst 1, 1) := by decide +kernel
theorem dX12_runs_79 : decode mX12_runs.2.1 79 = .ok (.isub, 1) := by decide +kernel
theorem dX12_runs_80 : decode mX12_runs.2.1 80 = .ok (.lconst 1, 1) := by decide +kernel
theorem dX12_runs_81 : decode mX12_runs.2.1 81 = .ok (.aload_n 0, 1) := by decide +kernel
theorem dX12_runs_82 : decode mX12_runs.2.1 82 = .ok (.getfield 139, 3) := by decide +kernel
theorem dX12_runs_85 : decode mX12_runs.2.1 85 = .ok (.iload_n 3, 1) := by decide +kernel
theorem dX12_runs_86 : decode mX12_runs.2.1 86 = .ok (.iconst 1, 1) := by decide +kernel
theorem dX12_runs_87 : decode mX12_runs.2.1 87 = .ok (.isub, 1) := by decide +kernel
theorem dX12_runs_88 : decode mX12_runs.2.1 88 = .ok (.laload, 1) := by decide +kernel
theorem dX12_runs_89 : decode mX12_runs.2.1 89 = .ok (.lsub, 1) := by decide +kernel
theorem dX12_runs_90 : decode mX12_runs.2.1 90 = .ok (.lastore, 1) := by decide +kernel
theorem dX12_runs_91 : decode mX12_runs.2.1 91 = .ok (.goto 33, 3) := by decide +kernel
theorem dX12_runs_94 : decode mX12_runs.2.1 94 = .ok (.iinc 3 (-1), 3) := by decide +kernel
theorem dX12_runs_97 : decode mX12_runs.2.1 97 = .ok (.aload_n 0, 1) := by decide +kernel
theorem dX12_runs_98 : decode mX12_runs.2.1 98 = .ok (.getfield 139, 3) := by decide +kernel
theorem dX12_runs_101 : decode mX12_runs.2.1 101 = .ok (.iload_n 3, 1) := by decide +kernel
theorem dX12_runs_102 : decode mX12_runs.2.1 102 = .ok (.iconst 1, 1) := by decide +kernel
theorem dX12_runs_103 : decode mX12_runs.2.1 103 = .ok (.isub, 1) := by decide +kernel
theorem dX12_runs_104 : decode mX12_runs.2.1 104 = .ok (.iload 5, 2) := by decide +kernel
theorem dX12_runs_106 : decode mX12_runs.2.1 106 = .ok (.aload_n 0, 1) := by decide +kernel
theorem dX12_runs_107 : decode mX12_runs.2.1 107 = .ok (.getfield 139, 3) := by decide +kernel
theorem dX12_runs_110 : decode mX12_runs.2.1 110 = .ok (.iload_n 3, 1) := by decide +kernel
theorem dX12_runs_111 : decode mX12_runs.2.1 111 = .ok (.iconst 1, 1) := by decide +kernel
theorem dX12_runs_112 : decode mX12_runs.2.1 112 = .ok (.isub, 1) := by decide +kernel
theorem dX12_runs_113 : decode mX12_runs.2.1 113 = .ok (.laload, 1) := by decide +kernel
theorem dX12_runs_114 : decode mX12_runs.2.1 114 = .ok (.aload_n 0, 1) := by decide +kernel
theorem dX12_runs_115 : decode mX12_runs.2.1 115 = .ok (.getfield 139, 3) := by decide +kernel
theorem dX12_runs_118 : decode mX12_runs.2.1 118 = .ok (.iload_n 3, 1) := by decide +kernel
theorem dX12_runs_119 : decode mX12_runs.2.1 119 = .ok (.laload, 1) := by decide +kernel
theorem dX12_runs_120 : decode mX12_runs.2.1 120 = .ok (.invokestatic 482, 3) := by decide +kernel
theorem dX12_runs_123 : decode mX12_runs.2.1 123 = .ok (.lastore, 1) := by decide +kernel
theorem dX12_runs_124 : decode mX12_runs.2.1 124 = .ok (.iinc 4 1, 3) := by decide +kernel
theorem dX12_runs_127 : decode mX12_runs.2.1 127 = .ok (.goto (-122), 3) := by decide +kernel
theorem dX12_runs_130 : decode mX12_runs.2.1 130 = .ok (.aload_n 0, 1) := by decide +kernel
theorem dX12_runs_131 : decode mX12_runs.2.1 131 = .ok (.getfield 139, 3) := by decide +kernel
theorem dX12_runs_134 : decode mX12_runs.2.1 134 = .ok (.iconst 0, 1) := by decide +kernel
theorem dX12_runs_135 : decode mX12_runs.2.1 135 = .ok (.laload, 1) := by decide +kernel
theorem dX12_runs_136 : decode mX12_runs.2.1 136 = .ok (.lreturn, 1) := by decide +kernel
theorem dX12_nextRain_0 : decode mX12_nextRain.2.1 0 = .ok (.sipush 900, 3) := by decide +kernel
theorem dX12_nextRain_3 : decode mX12_nextRain.2.1 3 = .ok (.istore_n 1, 1) := by decide +kernel
theorem dX12_nextRain_4 : decode mX12_nextRain.2.1 4 = .ok (.iconst 0, 1) := by decide +kernel
theorem dX12_nextRain_5 : decode mX12_nextRain.2.1 5 = .ok (.istore_n 2, 1) := by decide +kernel
theorem dX12_nextRain_6 : decode mX12_nextRain.2.1 6 = .ok (.iload_n 2, 1) := by decide +kernel
theorem dX12_nextRain_7 : decode mX12_nextRain.2.1 7 = .ok (.aload_n 0, 1) := by decide +kernel
theorem dX12_nextRain_8 : decode mX12_nextRain.2.1 8 = .ok (.getfield 210, 3) := by decide +kernel
theorem dX12_nextRain_11 : decode mX12_nextRain.2.1 11 = .ok (.if_icmp .ge 50, 3) := by decide +kernel
theorem dX12_nextRain_14 : decode mX12_nextRain.2.1 14 = .ok (.aload_n 0, 1) := by decide +kernel
theorem dX12_nextRain_15 : decode mX12_nextRain.2.1 15 = .ok (.getfield 34, 3) := by decide +kernel
theorem dX12_nextRain_18 : decode mX12_nextRain.2.1 18 = .ok (.iload_n 2, 1) := by decide +kernel
theorem dX12_nextRain_19 : decode mX12_nextRain.2.1 19 = .ok (.iaload, 1) := by decide +kernel
theorem dX12_nextRain_20 : decode mX12_nextRain.2.1 20 = .ok (.aload_n 0, 1) := by decide +kernel
theorem dX12_nextRain_21 : decode mX12_nextRain.2.1 21 = .ok (.getfield 7, 3) := by decide +kernel
theorem dX12_nextRain_24 : decode mX12_nextRain.2.1 24 = .ok (.sipush 1624, 3) := by decide +kernel
theorem dX12_nextRain_27 : decode mX12_nextRain.2.1 27 = .ok (.iaload, 1) := by decide +kernel
theorem dX12_nextRain_28 : decode mX12_nextRain.2.1 28 = .ok (.if_icmp .le 27, 3) := by decide +kernel
theorem dX12_nextRain_31 : decode mX12_nextRain.2.1 31 = .ok (.iload_n 1, 1) := by decide +kernel
theorem dX12_nextRain_32 : decode mX12_nextRain.2.1 32 = .ok (.iconst 1, 1) := by decide +kernel
theorem dX12_nextRain_33 : decode mX12_nextRain.2.1 33 = .ok (.aload_n 0, 1) := by decide +kernel
theorem dX12_nextRain_34 : decode mX12_nextRain.2.1 34 = .ok (.getfield 31, 3) := by decide +kernel
theorem dX12_nextRain_37 : decode mX12_nextRain.2.1 37 = .ok (.iload_n 2, 1) := by decide +kernel
theorem dX12_nextRain_38 : decode mX12_nextRain.2.1 38 = .ok (.iaload, 1) := by decide +kernel
theorem dX12_nextRain_39 : decode mX12_nextRain.2.1 39 = .ok (.aload_n 0, 1) := by decide +kernel
theorem dX12_nextRain_40 : decode mX12_nextRain.2.1 40 = .ok (.getfield 7, 3) := by decide +kernel
theorem dX12_nextRain_43 : decode mX12_nextRain.2.1 43 = .ok (.sipush 1624, 3) := by decide +kernel
theorem dX12_nextRain_46 : decode mX12_nextRain.2.1 46 = .ok (.iaload, 1) := by decide +kernel
theorem dX12_nextRain_47 : decode mX12_nextRain.2.1 47 = .ok (.isub, 1) := by decide +kernel
theorem dX12_nextRain_48 : decode mX12_nextRain.2.1 48 = .ok (.invokestatic 486, 3) := by decide +kernel
theorem dX12_nextRain_51 : decode mX12_nextRain.2.1 51 = .ok (.invokestatic 276, 3) := by decide +kernel
theorem dX12_nextRain_54 : decode mX12_nextRain.2.1 54 = .ok (.istore_n 1, 1) := by decide +kernel
theorem dX12_nextRain_55 : decode mX12_nextRain.2.1 55 = .ok (.iinc 2 1, 3) := by decide +kernel
theorem dX12_nextRain_58 : decode mX12_nextRain.2.1 58 = .ok (.goto (-52), 3) := by decide +kernel
theorem dX12_nextRain_61 : decode mX12_nextRain.2.1 61 = .ok (.iload_n 1, 1) := by decide +kernel
theorem dX12_nextRain_62 : decode mX12_nextRain.2.1 62 = .ok (.ireturn, 1) := by decide +kernel
theorem dX12_toDo_0 : decode mX12_toDo.2.1 0 = .ok (.aload_n 0, 1) := by decide +kernel
theorem dX12_toDo_1 : decode mX12_toDo.2.1 1 = .ok (.iload_n 1, 1) := by decide +kernel
theorem dX12_toDo_2 : decode mX12_toDo.2.1 2 = .ok (.invokevirtual 228, 3) := by decide +kernel
theorem dX12_toDo_5 : decode mX12_toDo.2.1 5 = .ok (.ifCond .eq 10, 3) := by decide +kernel
theorem dX12_toDo_8 : decode mX12_toDo.2.1 8 = .ok (.aload_n 0, 1) := by decide +kernel
theorem dX12_toDo_9 : decode mX12_toDo.2.1 9 = .ok (.getfield 461, 3) := by decide +kernel
theorem dX12_toDo_12 : decode mX12_toDo.2.1 12 = .ok (.ifCond .ne 5, 3) := by decide +kernel
theorem dX12_toDo_15 : decode mX12_toDo.2.1 15 = .ok (.iconst (-1), 1) := by decide +kernel
theorem dX12_toDo_16 : decode mX12_toDo.2.1 16 = .ok (.ireturn, 1) := by decide +kernel
theorem dX12_toDo_17 : decode mX12_toDo.2.1 17 = .ok (.aload_n 0, 1) := by decide +kernel
theorem dX12_toDo_18 : decode mX12_toDo.2.1 18 = .ok (.getfield 142, 3) := by decide +kernel
theorem dX12_toDo_21 : decode mX12_toDo.2.1 21 = .ok (.iconst 0, 1) := by decide +kernel
theorem dX12_toDo_22 : decode mX12_toDo.2.1 22 = .ok (.aload_n 0, 1) := by decide +kernel
theorem dX12_toDo_23 : decode mX12_toDo.2.1 23 = .ok (.iload_n 1, 1) := by decide +kernel
theorem dX12_toDo_24 : decode mX12_toDo.2.1 24 = .ok (.invokevirtual 322, 3) := by decide +kernel
theorem dX12_toDo_27 : decode mX12_toDo.2.1 27 = .ok (.i2l, 1) := by decide +kernel
theorem dX12_toDo_28 : decode mX12_toDo.2.1 28 = .ok (.lastore, 1) := by decide +kernel
theorem dX12_toDo_29 : decode mX12_toDo.2.1 29 = .ok (.aload_n 0, 1) := by decide +kernel
theorem dX12_toDo_30 : decode mX12_toDo.2.1 30 = .ok (.getfield 142, 3) := by decide +kernel
theorem dX12_toDo_33 : decode mX12_toDo.2.1 33 = .ok (.iconst 1, 1) := by decide +kernel
theorem dX12_toDo_34 : decode mX12_toDo.2.1 34 = .ok (.aload_n 0, 1) := by decide +kernel
theorem dX12_toDo_35 : decode mX12_toDo.2.1 35 = .ok (.getfield 7, 3) := by decide +kernel
theorem dX12_toDo_38 : decode mX12_toDo.2.1 38 = .ok (.bipush 64, 2) := by decide +kernel
theorem dX12_toDo_40 : decode mX12_toDo.2.1 40 = .ok (.iload_n 1, 1) := by decide +kernel
theorem dX12_toDo_41 : decode mX12_toDo.2.1 41 = .ok (.iadd, 1) := by decide +kernel
theorem dX12_toDo_42 : decode mX12_toDo.2.1 42 = .ok (.iaload, 1) := by decide +kernel
theorem dX12_toDo_43 : decode mX12_toDo.2.1 43 = .ok (.i2l, 1) := by decide +kernel
theorem dX12_toDo_44 : decode mX12_toDo.2.1 44 = .ok (.lastore, 1) := by decide +kernel
theorem dX12_toDo_45 : decode mX12_toDo.2.1 45 = .ok (.aload_n 0, 1) := by decide +kernel
theorem dX12_toDo_46 : decode mX12_toDo.2.1 46 = .ok (.getfield 142, 3) := by decide +kernel
theorem dX12_toDo_49 : decode mX12_toDo.2.1 49 = .ok (.iconst 2, 1) := by decide +kernel
theorem dX12_toDo_50 : decode mX12_toDo.2.1 50 = .ok (.aload_n 0, 1) := by decide +kernel
theorem dX12_toDo_51 : decode mX12_toDo.2.1 51 = .ok (.getfield 7, 3) := by decide +kernel
theorem dX12_toDo_54 : decode mX12_toDo.2.1 54 = .ok (.sipush 128, 3) := by decide +kernel
theorem dX12_toDo_57 : decode mX12_toDo.2.1 57 = .ok (.iload_n 1, 1) := by decide +kernel
theorem dX12_toDo_58 : decode mX12_toDo.2.1 58 = .ok (.iadd, 1) := by decide +kernel
theorem dX12_toDo_59 : decode mX12_toDo.2.1 59 = .ok (.iaload, 1) := by decide +kernel
theorem dX12_toDo_60 : decode mX12_toDo.2.1 60 = .ok (.i2l, 1) := by decide +kernel
theorem dX12_toDo_61 : decode mX12_toDo.2.1 61 = .ok (.lastore, 1) := by decide +kernel
theorem dX12_toDo_62 : decode mX12_toDo.2.1 62 = .ok (.aload_n 0, 1) := by decide +kernel
theorem dX12_toDo_63 : decode mX12_toDo.2.1 63 = .ok (.getfield 142, 3) := by decide +kernel
theorem dX12_toDo_66 : decode mX12_toDo.2.1 66 = .ok (.iconst 3, 1) := by decide +kernel
theorem dX12_toDo_67 : decode mX12_toDo.2.1 67 = .ok (.aload_n 0, 1) := by decide +kernel
theorem dX12_toDo_68 : decode mX12_toDo.2.1 68 = .ok (.getfield 7, 3) := by decide +kernel
theorem dX12_toDo_71 : decode mX12_toDo.2.1 71 = .ok (.sipush 384, 3) := by decide +kernel
theorem dX12_toDo_74 : decode mX12_toDo.2.1 74 = .ok (.iload_n 1, 1) := by decide +kernel
theorem dX12_toDo_75 : decode mX12_toDo.2.1 75 = .ok (.iadd, 1) := by decide +kernel
theorem dX12_toDo_76 : decode mX12_toDo.2.1 76 = .ok (.iaload, 1) := by decide +kernel
theorem dX12_toDo_77 : decode mX12_toDo.2.1 77 = .ok (.i2l, 1) := by decide +kernel
theorem dX12_toDo_78 : decode mX12_toDo.2.1 78 = .ok (.lastore, 1) := by decide +kernel
theorem dX12_toDo_79 : decode mX12_toDo.2.1 79 = .ok (.aload_n 0, 1) := by decide +kernel
theorem dX12_toDo_80 : decode mX12_toDo.2.1 80 = .ok (.getfield 142, 3) := by decide +kernel
theorem dX12_toDo_83 : decode mX12_toDo.2.1 83 = .ok (.iconst 4, 1) := by decide +kernel
theorem dX12_toDo_84 : decode mX12_toDo.2.1 84 = .ok (.aload_n 0, 1) := by decide +kernel
theorem dX12_toDo_85 : decode mX12_toDo.2.1 85 = .ok (.getfield 7, 3) := by decide +kernel
theorem dX12_toDo_88 : decode mX12_toDo.2.1 88 = .ok (.sipush 256, 3) := by decide +kernel
theorem dX12_toDo_91 : decode mX12_toDo.2.1 91 = .ok (.iload_n 1, 1) := by decide +kernel
theorem dX12_toDo_92 : decode mX12_toDo.2.1 92 = .ok (.iadd, 1) := by decide +kernel
theorem dX12_toDo_93 : decode mX12_toDo.2.1 93 = .ok (.iaload, 1) := by decide +kernel
theorem dX12_toDo_94 : decode mX12_toDo.2.1 94 = .ok (.i2l, 1) := by decide +kernel
theorem dX12_toDo_95 : decode mX12_toDo.2.1 95 = .ok (.lastore, 1) := by decide +kernel
theorem dX12_toDo_96 : decode mX12_toDo.2.1 96 = .ok (.aload_n 0, 1) := by decide +kernel
theorem dX12_toDo_97 : decode mX12_toDo.2.1 97 = .ok (.getfield 142, 3) := by decide +kernel
theorem dX12_toDo_100 : decode mX12_toDo.2.1 100 = .ok (.iconst 5, 1) := by decide +kernel
theorem dX12_toDo_101 : decode mX12_toDo.2.1 101 = .ok (.aload_n 0, 1) := by decide +kernel
theorem dX12_toDo_102 : decode mX12_toDo.2.1 102 = .ok (.getfield 7, 3) := by decide +kernel
theorem dX12_toDo_105 : decode mX12_toDo.2.1 105 = .ok (.sipush 320, 3) := by decide +kernel
theorem dX12_toDo_108 : decode mX12_toDo.2.1 108 = .ok (.iload_n 1, 1) := by decide +kernel
theorem dX12_toDo_109 : decode mX12_toDo.2.1 109 = .ok (.iadd, 1) := by decide +kernel
theorem dX12_toDo_110 : decode mX12_toDo.2.1 110 = .ok (.iaload, 1) := by decide +kernel
theorem dX12_toDo_111 : decode mX12_toDo.2.1 111 = .ok (.i2l, 1) := by decide +kernel
theorem dX12_toDo_112 : decode mX12_toDo.2.1 112 = .ok (.lastore, 1) := by decide +kernel
theorem dX12_toDo_113 : decode mX12_toDo.2.1 113 = .ok (.aload_n 0, 1) := by decide +kernel
theorem dX12_toDo_114 : decode mX12_toDo.2.1 114 = .ok (.getfield 142, 3) := by decide +kernel
theorem dX12_toDo_117 : decode mX12_toDo.2.1 117 = .ok (.bipush 6, 2) := by decide +kernel
theorem dX12_toDo_119 : decode mX12_toDo.2.1 119 = .ok (.aload_n 0, 1) := by decide +kernel
theorem dX12_toDo_120 : decode mX12_toDo.2.1 120 = .ok (.invokevirtual 488, 3) := by decide +kernel
theorem dX12_toDo_123 : decode mX12_toDo.2.1 123 = .ok (.i2l, 1) := by decide +kernel
theorem dX12_toDo_124 : decode mX12_toDo.2.1 124 = .ok (.lastore, 1) := by decide +kernel
theorem dX12_toDo_125 : decode mX12_toDo.2.1 125 = .ok (.aload_n 0, 1) := by decide +kernel
theorem dX12_toDo_126 : decode mX12_toDo.2.1 126 = .ok (.getfield 142, 3) := by decide +kernel
theorem dX12_toDo_129 : decode mX12_toDo.2.1 129 = .ok (.bipush 7, 2) := by decide +kernel
theorem dX12_toDo_131 : decode mX12_toDo.2.1 131 = .ok (.aload_n 0, 1) := by decide +kernel
theorem dX12_toDo_132 : decode mX12_toDo.2.1 132 = .ok (.getfield 7, 3) := by decide +kernel
theorem dX12_toDo_135 : decode mX12_toDo.2.1 135 = .ok (.sipush 448, 3) := by decide +kernel
theorem dX12_toDo_138 : decode mX12_toDo.2.1 138 = .ok (.iload_n 1, 1) := by decide +kernel
theorem dX12_toDo_139 : decode mX12_toDo.2.1 139 = .ok (.iadd, 1) := by decide +kernel
theorem dX12_toDo_140 : decode mX12_toDo.2.1 140 = .ok (.iaload, 1) := by decide +kernel
theorem dX12_toDo_141 : decode mX12_toDo.2.1 141 = .ok (.i2l, 1) := by decide +kernel
theorem dX12_toDo_142 : decode mX12_toDo.2.1 142 = .ok (.lastore, 1) := by decide +kernel
theorem dX12_toDo_143 : decode mX12_toDo.2.1 143 = .ok (.aload_n 0, 1) := by decide +kernel
theorem dX12_toDo_144 : decode mX12_toDo.2.1 144 = .ok (.getfield 461, 3) := by decide +kernel
theorem dX12_toDo_147 : decode mX12_toDo.2.1 147 = .ok (.iconst 1, 1) := by decide +kernel
theorem dX12_toDo_148 : decode mX12_toDo.2.1 148 = .ok (.isub, 1) := by decide +kernel
theorem dX12_toDo_149 : decode mX12_toDo.2.1 149 = .ok (.istore_n 2, 1) := by decide +kernel
theorem dX12_toDo_150 : decode mX12_toDo.2.1 150 = .ok (.bipush 24, 2) := by decide +kernel
theorem dX12_toDo_152 : decode mX12_toDo.2.1 152 = .ok (.iload_n 2, 1) := by decide +kernel
theorem dX12_toDo_153 : decode mX12_toDo.2.1 153 = .ok (.imul, 1) := by decide +kernel
theorem dX12_toDo_154 : decode mX12_toDo.2.1 154 = .ok (.istore_n 3, 1) := by decide +kernel
theorem dX12_toDo_155 : decode mX12_toDo.2.1 155 = .ok (.iload_n 3, 1) := by decide +kernel
theorem dX12_toDo_156 : decode mX12_toDo.2.1 156 = .ok (.bipush 24, 2) := by decide +kernel
theorem dX12_toDo_158 : decode mX12_toDo.2.1 158 = .ok (.iload_n 2, 1) := by decide +kernel
theorem dX12_toDo_159 : decode mX12_toDo.2.1 159 = .ok (.imul, 1) := by decide +kernel
theorem dX12_toDo_160 : decode mX12_toDo.2.1 160 = .ok (.aload_n 0, 1) := by decide +kernel
theorem dX12_toDo_161 : decode mX12_toDo.2.1 161 = .ok (.getfield 118, 3) := by decide +kernel
theorem dX12_toDo_164 : decode mX12_toDo.2.1 164 = .ok (.iload_n 2, 1) := by decide +kernel
theorem dX12_toDo_165 : decode mX12_toDo.2.1 165 = .ok (.iaload, 1) := by decide +kernel
theorem dX12_toDo_166 : decode mX12_toDo.2.1 166 = .ok (.iadd, 1) := by decide +kernel
theorem dX12_toDo_167 : decode mX12_toDo.2.1 167 = .ok (.if_icmp .ge 47, 3) := by decide +kernel
theorem dX12_toDo_170 : decode mX12_toDo.2.1 170 = .ok (.aload_n 0, 1) := by decide +kernel
theorem dX12_toDo_171 : decode mX12_toDo.2.1 171 = .ok (.getfield 127, 3) := by decide +kernel
theorem dX12_toDo_174 : decode mX12_toDo.2.1 174 = .ok (.iload_n 3, 1) := by decide +kernel
theorem dX12_toDo_175 : decode mX12_toDo.2.1 175 = .ok (.iaload, 1) := by decide +kernel
theorem dX12_toDo_176 : decode mX12_toDo.2.1 176 = .ok (.aload_n 0, 1) := by decide +kernel
theorem dX12_toDo_177 : decode mX12_toDo.2.1 177 = .ok (.getfield 130, 3) := by decide +kernel
theorem dX12_toDo_180 : decode mX12_toDo.2.1 180 = .ok (.iload_n 3, 1) := by decide +kernel
theorem dX12_toDo_181 : decode mX12_toDo.2.1 181 = .ok (.iaload, 1) := by decide +kernel
theorem dX12_toDo_182 : decode mX12_toDo.2.1 182 = .ok (.if_icmp .eq 24, 3) := by decide +kernel
theorem dX12_toDo_185 : decode mX12_toDo.2.1 185 = .ok (.aload_n 0, 1) := by decide +kernel
theorem dX12_toDo_186 : decode mX12_toDo.2.1 186 = .ok (.aload_n 0, 1) := by decide +kernel
theorem dX12_toDo_187 : decode mX12_toDo.2.1 187 = .ok (.getfield 127, 3) := by decide +kernel
theorem dX12_toDo_190 : decode mX12_toDo.2.1 190 = .ok (.iload_n 3, 1) := by decide +kernel
theorem dX12_toDo_191 : decode mX12_toDo.2.1 191 = .ok (.iaload, 1) := by decide +kernel
theorem dX12_toDo_192 : decode mX12_toDo.2.1 192 = .ok (.aload_n 0, 1) := by decide +kernel
theorem dX12_toDo_193 : decode mX12_toDo.2.1 193 = .ok (.getfield 130, 3) := by decide +kernel
theorem dX12_toDo_196 : decode mX12_toDo.2.1 196 = .ok (.iload_n 3, 1) := by decide +kernel
theorem dX12_toDo_197 : decode mX12_toDo.2.1 197 = .ok (.iaload, 1) := by decide +kernel
theorem dX12_toDo_198 : decode mX12_toDo.2.1 198 = .ok (.invokevirtual 491, 3) := by decide +kernel
theorem dX12_toDo_201 : decode mX12_toDo.2.1 201 = .ok (.lconst 1, 1) := by decide +kernel
theorem dX12_toDo_202 : decode mX12_toDo.2.1 202 = .ok (.lcmp, 1) := by decide +kernel
theorem dX12_toDo_203 : decode mX12_toDo.2.1 203 = .ok (.ifCond .ne 5, 3) := by decide +kernel
theorem dX12_toDo_206 : decode mX12_toDo.2.1 206 = .ok (.iload_n 3, 1) := by decide +kernel
theorem dX12_toDo_207 : decode mX12_toDo.2.1 207 = .ok (.ireturn, 1) := by decide +kernel
theorem dX12_toDo_208 : decode mX12_toDo.2.1 208 = .ok (.iinc 3 1, 3) := by decide +kernel
theorem dX12_toDo_211 : decode mX12_toDo.2.1 211 = .ok (.goto (-56), 3) := by decide +kernel
theorem dX12_toDo_214 : decode mX12_toDo.2.1 214 = .ok (.iconst (-1), 1) := by decide +kernel
theorem dX12_toDo_215 : decode mX12_toDo.2.1 215 = .ok (.ireturn, 1) := by decide +kernel
theorem dX12_act_0 : decode mX12_act.2.1 0 = .ok (.aload_n 0, 1) := by decide +kernel
theorem dX12_act_1 : decode mX12_act.2.1 1 = .ok (.iload_n 1, 1) := by decide +kernel
theorem dX12_act_2 : decode mX12_act.2.1 2 = .ok (.invokevirtual 495, 3) := by decide +kernel
theorem dX12_act_5 : decode mX12_act.2.1 5 = .ok (.istore_n 3, 1) := by decide +kernel
theorem dX12_act_6 : decode mX12_act.2.1 6 = .ok (.iload_n 3, 1) := by decide +kernel
theorem dX12_act_7 : decode mX12_act.2.1 7 = .ok (.iconst (-1), 1) := by decide +kernel
theorem dX12_act_8 : decode mX12_act.2.1 8 = .ok (.if_icmp .ne 7, 3) := by decide +kernel
theorem dX12_act_11 : decode mX12_act.2.1 11 = .ok (.ldc_w 359, 3) := by decide +kernel
theorem dX12_act_14 : decode mX12_act.2.1 14 = .ok (.ireturn, 1) := by decide +kernel
theorem dX12_act_15 : decode mX12_act.2.1 15 = .ok (.iload_n 2, 1) := by decide +kernel
theorem dX12_act_16 : decode mX12_act.2.1 16 = .ok (.ifCond .ne 10, 3) := by decide +kernel
theorem dX12_act_19 : decode mX12_act.2.1 19 = .ok (.iload_n 3, 1) := by decide +kernel
theorem dX12_act_20 : decode mX12_act.2.1 20 = .ok (.bipush 24, 2) := by decide +kernel
theorem dX12_act_22 : decode mX12_act.2.1 22 = .ok (.irem, 1) := by decide +kernel
theorem dX12_act_23 : decode mX12_act.2.1 23 = .ok (.goto 59, 3) := by decide +kernel
theorem dX12_act_26 : decode mX12_act.2.1 26 = .ok (.iload_n 2, 1) := by decide +kernel
theorem dX12_act_27 : decode mX12_act.2.1 27 = .ok (.iconst 1, 1) := by decide +kernel
theorem dX12_act_28 : decode mX12_act.2.1 28 = .ok (.if_icmp .ne 12, 3) := by decide +kernel
theorem dX12_act_31 : decode mX12_act.2.1 31 = .ok (.aload_n 0, 1) := by decide +kernel
theorem dX12_act_32 : decode mX12_act.2.1 32 = .ok (.getfield 121, 3) := by decide +kernel
theorem dX12_act_35 : decode mX12_act.2.1 35 = .ok (.iload_n 3, 1) := by decide +kernel
theorem dX12_act_36 : decode mX12_act.2.1 36 = .ok (.iaload, 1) := by decide +kernel
theorem dX12_act_37 : decode mX12_act.2.1 37 = .ok (.goto 45, 3) := by decide +kernel
theorem dX12_act_40 : decode mX12_act.2.1 40 = .ok (.iload_n 2, 1) := by decide +kernel
theorem dX12_act_41 : decode mX12_act.2.1 41 = .ok (.iconst 2, 1) := by decide +kernel
theorem dX12_act_42 : decode mX12_act.2.1 42 = .ok (.if_icmp .ne 37, 3) := by decide +kernel
theorem dX12_act_45 : decode mX12_act.2.1 45 = .ok (.aload_n 0, 1) := by decide +kernel
theorem dX12_act_46 : decode mX12_act.2.1 46 = .ok (.getfield 121, 3) := by decide +kernel
theorem dX12_act_49 : decode mX12_act.2.1 49 = .ok (.iload_n 3, 1) := by decide +kernel
theorem dX12_act_50 : decode mX12_act.2.1 50 = .ok (.iaload, 1) := by decide +kernel
theorem dX12_act_51 : decode mX12_act.2.1 51 = .ok (.iconst 3, 1) := by decide +kernel
theorem dX12_act_52 : decode mX12_act.2.1 52 = .ok (.if_icmp .ne 23, 3) := by decide +kernel
theorem dX12_act_55 : decode mX12_act.2.1 55 = .ok (.aload_n 0, 1) := by decide +kernel
theorem dX12_act_56 : decode mX12_act.2.1 56 = .ok (.aload_n 0, 1) := by decide +kernel
theorem dX12_act_57 : decode mX12_act.2.1 57 = .ok (.getfield 124, 3) := by decide +kernel
theorem dX12_act_60 : decode mX12_act.2.1 60 = .ok (.iload_n 3, 1) := by decide +kernel
theorem dX12_act_61 : decode mX12_act.2.1 61 = .ok (.iaload, 1) := by decide +kernel
theorem dX12_act_62 : decode mX12_act.2.1 62 = .ok (.aload_n 0, 1) := by decide +kernel
theorem dX12_act_63 : decode mX12_act.2.1 63 = .ok (.getfield 127, 3) := by decide +kernel
theorem dX12_act_66 : decode mX12_act.2.1 66 = .ok (.iload_n 3, 1) := by decide +kernel
theorem dX12_act_67 : decode mX12_act.2.1 67 = .ok (.iaload, 1) := by decide +kernel
theorem dX12_act_68 : decode mX12_act.2.1 68 = .ok (.invokevirtual 491, 3) := by decide +kernel
theorem dX12_act_71 : decode mX12_act.2.1 71 = .ok (.l2i, 1) := by decide +kernel
theorem dX12_act_72 : decode mX12_act.2.1 72 = .ok (.goto 10, 3) := by decide +kernel
theorem dX12_act_75 : decode mX12_act.2.1 75 = .ok (.iconst 0, 1) := by decide +kernel
theorem dX12_act_76 : decode mX12_act.2.1 76 = .ok (.goto 6, 3) := by decide +kernel
theorem dX12_act_79 : decode mX12_act.2.1 79 = .ok (.ldc_w 359, 3) := by decide +kernel
theorem dX12_act_82 : decode mX12_act.2.1 82 = .ok (.ireturn, 1) := by decide +kernel
theorem dX12_tells_0 : decode mX12_tells.2.1 0 = .ok (.aload_n 0, 1) := by decide +kernel
theorem dX12_tells_1 : decode mX12_tells.2.1 1 = .ok (.getfield 16, 3) := by decide +kernel
theorem dX12_tells_4 : decode mX12_tells.2.1 4 = .ok (.aload_n 0, 1) := by decide +kernel
theorem dX12_tells_5 : decode mX12_tells.2.1 5 = .ok (.getfield 175, 3) := by decide +kernel
theorem dX12_tells_8 : decode mX12_tells.2.1 8 = .ok (.iload_n 1, 1) := by decide +kernel
theorem dX12_tells_9 : decode mX12_tells.2.1 9 = .ok (.iastore, 1) := by decide +kernel
theorem dX12_tells_10 : decode mX12_tells.2.1 10 = .ok (.aload_n 0, 1) := by decide +kernel
theorem dX12_tells_11 : decode mX12_tells.2.1 11 = .ok (.getfield 19, 3) := by decide +kernel
theorem dX12_tells_14 : decode mX12_tells.2.1 14 = .ok (.aload_n 0, 1) := by decide +kernel
theorem dX12_tells_15 : decode mX12_tells.2.1 15 = .ok (.getfield 175, 3) := by decide +kernel
theorem dX12_tells_18 : decode mX12_tells.2.1 18 = .ok (.aload_n 0, 1) := by decide +kernel
theorem dX12_tells_19 : decode mX12_tells.2.1 19 = .ok (.getfield 7, 3) := by decide +kernel
theorem dX12_tells_22 : decode mX12_tells.2.1 22 = .ok (.sipush 1624, 3) := by decide +kernel
theorem dX12_tells_25 : decode mX12_tells.2.1 25 = .ok (.iaload, 1) := by decide +kernel
theorem dX12_tells_26 : decode mX12_tells.2.1 26 = .ok (.iastore, 1) := by decide +kernel
theorem dX12_tells_27 : decode mX12_tells.2.1 27 = .ok (.aload_n 0, 1) := by decide +kernel
theorem dX12_tells_28 : decode mX12_tells.2.1 28 = .ok (.getfield 22, 3) := by decide +kernel
theorem dX12_tells_31 : decode mX12_tells.2.1 31 = .ok (.aload_n 0, 1) := by decide +kernel
theorem dX12_tells_32 : decode mX12_tells.2.1 32 = .ok (.getfield 175, 3) := by decide +kernel
theorem dX12_tells_35 : decode mX12_tells.2.1 35 = .ok (.iload_n 2, 1) := by decide +kernel
theorem dX12_tells_36 : decode mX12_tells.2.1 36 = .ok (.iastore, 1) := by decide +kernel
theorem dX12_tells_37 : decode mX12_tells.2.1 37 = .ok (.aload_n 0, 1) := by decide +kernel
theorem dX12_tells_38 : decode mX12_tells.2.1 38 = .ok (.getfield 25, 3) := by decide +kernel
theorem dX12_tells_41 : decode mX12_tells.2.1 41 = .ok (.aload_n 0, 1) := by decide +kernel
theorem dX12_tells_42 : decode mX12_tells.2.1 42 = .ok (.getfield 175, 3) := by decide +kernel
theorem dX12_tells_45 : decode mX12_tells.2.1 45 = .ok (.iload_n 3, 1) := by decide +kernel
theorem dX12_tells_46 : decode mX12_tells.2.1 46 = .ok (.iastore, 1) := by decide +kernel
theorem dX12_tells_47 : decode mX12_tells.2.1 47 = .ok (.aload_n 0, 1) := by decide +kernel
theorem dX12_tells_48 : decode mX12_tells.2.1 48 = .ok (.getfield 28, 3) := by decide +kernel
theorem dX12_tells_51 : decode mX12_tells.2.1 51 = .ok (.aload_n 0, 1) := by decide +kernel
theorem dX12_tells_52 : decode mX12_tells.2.1 52 = .ok (.getfield 175, 3) := by decide +kernel
theorem dX12_tells_55 : decode mX12_tells.2.1 55 = .ok (.iload 4, 2) := by decide +kernel
theorem dX12_tells_57 : decode mX12_tells.2.1 57 = .ok (.iastore, 1) := by decide +kernel
theorem dX12_tells_58 : decode mX12_tells.2.1 58 = .ok (.aload_n 0, 1) := by decide +kernel
theorem dX12_tells_59 : decode mX12_tells.2.1 59 = .ok (.dup, 1) := by decide +kernel
theorem dX12_tells_60 : decode mX12_tells.2.1 60 = .ok (.getfield 175, 3) := by decide +kernel
theorem dX12_tells_63 : decode mX12_tells.2.1 63 = .ok (.iconst 1, 1) := by decide +kernel
theorem dX12_tells_64 : decode mX12_tells.2.1 64 = .ok (.iadd, 1) := by decide +kernel
theorem dX12_tells_65 : decode mX12_tells.2.1 65 = .ok (.putfield 175, 3) := by decide +kernel
theorem dX12_tells_68 : decode mX12_tells.2.1 68 = .ok (.aload_n 0, 1) := by decide +kernel
theorem dX12_tells_69 : decode mX12_tells.2.1 69 = .ok (.aload_n 0, 1) := by decide +kernel
theorem dX12_tells_70 : decode mX12_tells.2.1 70 = .ok (.getfield 175, 3) := by decide +kernel
theorem dX12_tells_73 : decode mX12_tells.2.1 73 = .ok (.iconst 1, 1) := by decide +kernel
theorem dX12_tells_74 : decode mX12_tells.2.1 74 = .ok (.isub, 1) := by decide +kernel
theorem dX12_tells_75 : decode mX12_tells.2.1 75 = .ok (.invokevirtual 178, 3) := by decide +kernel
theorem dX12_tells_78 : decode mX12_tells.2.1 78 = .ok (.return_, 1) := by decide +kernel
theorem dX12_land_0 : decode mX12_land.2.1 0 = .ok (.iload_n 1, 1) := by decide +kernel
theorem dX12_land_1 : decode mX12_land.2.1 1 = .ok (.invokestatic 199, 3) := by decide +kernel
theorem dX12_land_4 : decode mX12_land.2.1 4 = .ok (.ifCond .eq 34, 3) := by decide +kernel
theorem dX12_land_7 : decode mX12_land.2.1 7 = .ok (.iload_n 2, 1) := by decide +kernel
theorem dX12_land_8 : decode mX12_land.2.1 8 = .ok (.iconst 0, 1) := by decide +kernel
theorem dX12_land_9 : decode mX12_land.2.1 9 = .ok (.bipush 99, 2) := by decide +kernel
theorem dX12_land_11 : decode mX12_land.2.1 11 = .ok (.invokestatic 162, 3) := by decide +kernel
theorem dX12_land_14 : decode mX12_land.2.1 14 = .ok (.ifCond .eq 24, 3) := by decide +kernel
theorem dX12_land_17 : decode mX12_land.2.1 17 = .ok (.iload_n 3, 1) := by decide +kernel
theorem dX12_land_18 : decode mX12_land.2.1 18 = .ok (.iconst 0, 1) := by decide +kernel
theorem dX12_land_19 : decode mX12_land.2.1 19 = .ok (.sipush 999, 3) := by decide +kernel
theorem dX12_land_22 : decode mX12_land.2.1 22 = .ok (.invokestatic 162, 3) := by decide +kernel
theorem dX12_land_25 : decode mX12_land.2.1 25 = .ok (.ifCond .eq 13, 3) := by decide +kernel
theorem dX12_land_28 : decode mX12_land.2.1 28 = .ok (.aload_n 0, 1) := by decide +kernel
theorem dX12_land_29 : decode mX12_land.2.1 29 = .ok (.getfield 175, 3) := by decide +kernel
theorem dX12_land_32 : decode mX12_land.2.1 32 = .ok (.sipush 400, 3) := by decide +kernel
theorem dX12_land_35 : decode mX12_land.2.1 35 = .ok (.if_icmp .ne 5, 3) := by decide +kernel
theorem dX12_land_38 : decode mX12_land.2.1 38 = .ok (.iconst 0, 1) := by decide +kernel
theorem dX12_land_39 : decode mX12_land.2.1 39 = .ok (.ireturn, 1) := by decide +kernel
theorem dX12_land_40 : decode mX12_land.2.1 40 = .ok (.aload_n 0, 1) := by decide +kernel
theorem dX12_land_41 : decode mX12_land.2.1 41 = .ok (.iconst 0, 1) := by decide +kernel
theorem dX12_land_42 : decode mX12_land.2.1 42 = .ok (.iload_n 1, 1) := by decide +kernel
theorem dX12_land_43 : decode mX12_land.2.1 43 = .ok (.iload_n 2, 1) := by decide +kernel
theorem dX12_land_44 : decode mX12_land.2.1 44 = .ok (.iload_n 3, 1) := by decide +kernel
theorem dX12_land_45 : decode mX12_land.2.1 45 = .ok (.invokevirtual 203, 3) := by decide +kernel
theorem dX12_land_48 : decode mX12_land.2.1 48 = .ok (.iconst 1, 1) := by decide +kernel
theorem dX12_land_49 : decode mX12_land.2.1 49 = .ok (.ireturn, 1) := by decide +kernel
theorem dX12_set_0 : decode mX12_set.2.1 0 = .ok (.iload_n 1, 1) := by decide +kernel
theorem dX12_set_1 : decode mX12_set.2.1 1 = .ok (.iload_n 2, 1) := by decide +kernel
theorem dX12_set_2 : decode mX12_set.2.1 2 = .ok (.invokestatic 207, 3) := by decide +kernel
theorem dX12_set_5 : decode mX12_set.2.1 5 = .ok (.ifCond .eq 13, 3) := by decide +kernel
theorem dX12_set_8 : decode mX12_set.2.1 8 = .ok (.aload_n 0, 1) := by decide +kernel
theorem dX12_set_9 : decode mX12_set.2.1 9 = .ok (.getfield 175, 3) := by decide +kernel
theorem dX12_set_12 : decode mX12_set.2.1 12 = .ok (.sipush 400, 3) := by decide +kernel
theorem dX12_set_15 : decode mX12_set.2.1 15 = .ok (.if_icmp .ne 5, 3) := by decide +kernel
theorem dX12_set_18 : decode mX12_set.2.1 18 = .ok (.iconst 0, 1) := by decide +kernel
theorem dX12_set_19 : decode mX12_set.2.1 19 = .ok (.ireturn, 1) := by decide +kernel
theorem dX12_set_20 : decode mX12_set.2.1 20 = .ok (.aload_n 0, 1) := by decide +kernel
theorem dX12_set_21 : decode mX12_set.2.1 21 = .ok (.iconst 1, 1) := by decide +kernel
theorem dX12_set_22 : decode mX12_set.2.1 22 = .ok (.iload_n 1, 1) := by decide +kernel
theorem dX12_set_23 : decode mX12_set.2.1 23 = .ok (.iload_n 2, 1) := by decide +kernel
theorem dX12_set_24 : decode mX12_set.2.1 24 = .ok (.iconst 0, 1) := by decide +kernel
theorem dX12_set_25 : decode mX12_set.2.1 25 = .ok (.invokevirtual 203, 3) := by decide +kernel
theorem dX12_set_28 : decode mX12_set.2.1 28 = .ok (.iconst 1, 1) := by decide +kernel
theorem dX12_set_29 : decode mX12_set.2.1 29 = .ok (.ireturn, 1) := by decide +kernel
theorem dX12_rain_0 : decode mX12_rain.2.1 0 = .ok (.iload_n 1, 1) := by decide +kernel
theorem dX12_rain_1 : decode mX12_rain.2.1 1 = .ok (.aload_n 0, 1) := by decide +kernel
theorem dX12_rain_2 : decode mX12_rain.2.1 2 = .ok (.getfield 7, 3) := by decide +kernel
theorem dX12_rain_5 : decode mX12_rain.2.1 5 = .ok (.sipush 1624, 3) := by decide +kernel
theorem dX12_rain_8 : decode mX12_rain.2.1 8 = .ok (.iaload, 1) := by decide +kernel
theorem dX12_rain_9 : decode mX12_rain.2.1 9 = .ok (.if_icmp .le 54, 3) := by decide +kernel
theorem dX12_rain_12 : decode mX12_rain.2.1 12 = .ok (.iload_n 1, 1) := by decide +kernel
theorem dX12_rain_13 : decode mX12_rain.2.1 13 = .ok (.iconst 1, 1) := by decide +kernel
theorem dX12_rain_14 : decode mX12_rain.2.1 14 = .ok (.sipush 719, 3) := by decide +kernel
theorem dX12_rain_17 : decode mX12_rain.2.1 17 = .ok (.invokestatic 162, 3) := by decide +kernel
theorem dX12_rain_20 : decode mX12_rain.2.1 20 = .ok (.ifCond .eq 43, 3) := by decide +kernel
theorem dX12_rain_23 : decode mX12_rain.2.1 23 = .ok (.iload_n 2, 1) := by decide +kernel
theorem dX12_rain_24 : decode mX12_rain.2.1 24 = .ok (.iload_n 1, 1) := by decide +kernel
theorem dX12_rain_25 : decode mX12_rain.2.1 25 = .ok (.sipush 719, 3) := by decide +kernel
theorem dX12_rain_28 : decode mX12_rain.2.1 28 = .ok (.invokestatic 162, 3) := by decide +kernel
theorem dX12_rain_31 : decode mX12_rain.2.1 31 = .ok (.ifCond .eq 32, 3) := by decide +kernel
theorem dX12_rain_34 : decode mX12_rain.2.1 34 = .ok (.iload_n 3, 1) := by decide +kernel
theorem dX12_rain_35 : decode mX12_rain.2.1 35 = .ok (.iconst 1, 1) := by decide +kernel
theorem dX12_rain_36 : decode mX12_rain.2.1 36 = .ok (.bipush 99, 2) := by decide +kernel
theorem dX12_rain_38 : decode mX12_rain.2.1 38 = .ok (.invokestatic 162, 3) := by decide +kernel
theorem dX12_rain_41 : decode mX12_rain.2.1 41 = .ok (.ifCond .eq 22, 3) := by decide +kernel
theorem dX12_rain_44 : decode mX12_rain.2.1 44 = .ok (.aload_n 0, 1) := by decide +kernel
theorem dX12_rain_45 : decode mX12_rain.2.1 45 = .ok (.getfield 210, 3) := by decide +kernel
theorem dX12_rain_48 : decode mX12_rain.2.1 48 = .ok (.bipush 30, 2) := by decide +kernel
theorem dX12_rain_50 : decode mX12_rain.2.1 50 = .ok (.if_icmp .eq 13, 3) := by decide +kernel
theorem dX12_rain_53 : decode mX12_rain.2.1 53 = .ok (.aload_n 0, 1) := by decide +kernel
theorem dX12_rain_54 : decode mX12_rain.2.1 54 = .ok (.getfield 175, 3) := by decide +kernel
theorem dX12_rain_57 : decode mX12_rain.2.1 57 = .ok (.sipush 400, 3) := by decide +kernel
theorem dX12_rain_60 : decode mX12_rain.2.1 60 = .ok (.if_icmp .ne 5, 3) := by decide +kernel
theorem dX12_rain_63 : decode mX12_rain.2.1 63 = .ok (.iconst (-1), 1) := by decide +kernel
theorem dX12_rain_64 : decode mX12_rain.2.1 64 = .ok (.ireturn, 1) := by decide +kernel
theorem dX12_rain_65 : decode mX12_rain.2.1 65 = .ok (.aload_n 0, 1) := by decide +kernel
theorem dX12_rain_66 : decode mX12_rain.2.1 66 = .ok (.getfield 31, 3) := by decide +kernel
theorem dX12_rain_69 : decode mX12_rain.2.1 69 = .ok (.aload_n 0, 1) := by decide +kernel
theorem dX12_rain_70 : decode mX12_rain.2.1 70 = .ok (.getfield 210, 3) := by decide +kernel
theorem dX12_rain_73 : decode mX12_rain.2.1 73 = .ok (.iload_n 1, 1) := by decide +kernel
theorem dX12_rain_74 : decode mX12_rain.2.1 74 = .ok (.iastore, 1) := by decide +kernel
theorem dX12_rain_75 : decode mX12_rain.2.1 75 = .ok (.aload_n 0, 1) := by decide +kernel
theorem dX12_rain_76 : decode mX12_rain.2.1 76 = .ok (.getfield 34, 3) := by decide +kernel
theorem dX12_rain_79 : decode mX12_rain.2.1 79 = .ok (.aload_n 0, 1) := by decide +kernel
theorem dX12_rain_80 : decode mX12_rain.2.1 80 = .ok (.getfield 210, 3) := by decide +kernel
theorem dX12_rain_83 : decode mX12_rain.2.1 83 = .ok (.iload_n 2, 1) := by decide +kernel
theorem dX12_rain_84 : decode mX12_rain.2.1 84 = .ok (.iastore, 1) := by decide +kernel
theorem dX12_rain_85 : decode mX12_rain.2.1 85 = .ok (.aload_n 0, 1) := by decide +kernel
theorem dX12_rain_86 : decode mX12_rain.2.1 86 = .ok (.getfield 37, 3) := by decide +kernel
theorem dX12_rain_89 : decode mX12_rain.2.1 89 = .ok (.aload_n 0, 1) := by decide +kernel
theorem dX12_rain_90 : decode mX12_rain.2.1 90 = .ok (.getfield 210, 3) := by decide +kernel
theorem dX12_rain_93 : decode mX12_rain.2.1 93 = .ok (.iload_n 3, 1) := by decide +kernel
theorem dX12_rain_94 : decode mX12_rain.2.1 94 = .ok (.iastore, 1) := by decide +kernel
theorem dX12_rain_95 : decode mX12_rain.2.1 95 = .ok (.aload_n 0, 1) := by decide +kernel
theorem dX12_rain_96 : decode mX12_rain.2.1 96 = .ok (.dup, 1) := by decide +kernel
theorem dX12_rain_97 : decode mX12_rain.2.1 97 = .ok (.getfield 210, 3) := by decide +kernel
theorem dX12_rain_100 : decode mX12_rain.2.1 100 = .ok (.iconst 1, 1) := by decide +kernel
theorem dX12_rain_101 : decode mX12_rain.2.1 101 = .ok (.iadd, 1) := by decide +kernel
theorem dX12_rain_102 : decode mX12_rain.2.1 102 = .ok (.putfield 210, 3) := by decide +kernel
theorem dX12_rain_105 : decode mX12_rain.2.1 105 = .ok (.aload_n 0, 1) := by decide +kernel
theorem dX12_rain_106 : decode mX12_rain.2.1 106 = .ok (.iconst 2, 1) := by decide +kernel
theorem dX12_rain_107 : decode mX12_rain.2.1 107 = .ok (.aload_n 0, 1) := by decide +kernel
theorem dX12_rain_108 : decode mX12_rain.2.1 108 = .ok (.getfield 210, 3) := by decide +kernel
theorem dX12_rain_111 : decode mX12_rain.2.1 111 = .ok (.iconst 1, 1) := by decide +kernel
theorem dX12_rain_112 : decode mX12_rain.2.1 112 = .ok (.isub, 1) := by decide +kernel
theorem dX12_rain_113 : decode mX12_rain.2.1 113 = .ok (.iconst 0, 1) := by decide +kernel
theorem dX12_rain_114 : decode mX12_rain.2.1 114 = .ok (.iconst 0, 1) := by decide +kernel
theorem dX12_rain_115 : decode mX12_rain.2.1 115 = .ok (.invokevirtual 203, 3) := by decide +kernel
theorem dX12_rain_118 : decode mX12_rain.2.1 118 = .ok (.aload_n 0, 1) := by decide +kernel
theorem dX12_rain_119 : decode mX12_rain.2.1 119 = .ok (.getfield 210, 3) := by decide +kernel
theorem dX12_rain_122 : decode mX12_rain.2.1 122 = .ok (.iconst 1, 1) := by decide +kernel
theorem dX12_rain_123 : decode mX12_rain.2.1 123 = .ok (.isub, 1) := by decide +kernel
theorem dX12_rain_124 : decode mX12_rain.2.1 124 = .ok (.ireturn, 1) := by decide +kernel
theorem dX12_cart_0 : decode mX12_cart.2.1 0 = .ok (.iload_n 1, 1) := by decide +kernel
theorem dX12_cart_1 : decode mX12_cart.2.1 1 = .ok (.iconst 0, 1) := by decide +kernel
theorem dX12_cart_2 : decode mX12_cart.2.1 2 = .ok (.iconst 3, 1) := by decide +kernel
theorem dX12_cart_3 : decode mX12_cart.2.1 3 = .ok (.invokestatic 162, 3) := by decide +kernel
theorem dX12_cart_6 : decode mX12_cart.2.1 6 = .ok (.ifCond .eq 65, 3) := by decide +kernel
theorem dX12_cart_9 : decode mX12_cart.2.1 9 = .ok (.iload_n 2, 1) := by decide +kernel
theorem dX12_cart_10 : decode mX12_cart.2.1 10 = .ok (.iconst 1, 1) := by decide +kernel
theorem dX12_cart_11 : decode mX12_cart.2.1 11 = .ok (.bipush 50, 2) := by decide +kernel
theorem dX12_cart_13 : decode mX12_cart.2.1 13 = .ok (.invokestatic 162, 3) := by decide +kernel
theorem dX12_cart_16 : decode mX12_cart.2.1 16 = .ok (.ifCond .eq 55, 3) := by decide +kernel
theorem dX12_cart_19 : decode mX12_cart.2.1 19 = .ok (.iload_n 3, 1) := by decide +kernel
theorem dX12_cart_20 : decode mX12_cart.2.1 20 = .ok (.bipush 50, 2) := by decide +kernel
theorem dX12_cart_22 : decode mX12_cart.2.1 22 = .ok (.sipush 999, 3) := by decide +kernel
theorem dX12_cart_25 : decode mX12_cart.2.1 25 = .ok (.invokestatic 162, 3) := by decide +kernel
theorem dX12_cart_28 : decode mX12_cart.2.1 28 = .ok (.ifCond .eq 43, 3) := by decide +kernel
theorem dX12_cart_31 : decode mX12_cart.2.1 31 = .ok (.iload 4, 2) := by decide +kernel
theorem dX12_cart_33 : decode mX12_cart.2.1 33 = .ok (.invokestatic 199, 3) := by decide +kernel
theorem dX12_cart_36 : decode mX12_cart.2.1 36 = .ok (.ifCond .eq 35, 3) := by decide +kernel
theorem dX12_cart_39 : decode mX12_cart.2.1 39 = .ok (.iload 5, 2) := by decide +kernel
theorem dX12_cart_41 : decode mX12_cart.2.1 41 = .ok (.bipush 10, 2) := by decide +kernel
theorem dX12_cart_43 : decode mX12_cart.2.1 43 = .ok (.sipush 500, 3) := by decide +kernel
theorem dX12_cart_46 : decode mX12_cart.2.1 46 = .ok (.invokestatic 162, 3) := by decide +kernel
theorem dX12_cart_49 : decode mX12_cart.2.1 49 = .ok (.ifCond .eq 22, 3) := by decide +kernel
theorem dX12_cart_52 : decode mX12_cart.2.1 52 = .ok (.aload_n 0, 1) := by decide +kernel
theorem dX12_cart_53 : decode mX12_cart.2.1 53 = .ok (.getfield 213, 3) := by decide +kernel
theorem dX12_cart_56 : decode mX12_cart.2.1 56 = .ok (.bipush 8, 2) := by decide +kernel
theorem dX12_cart_58 : decode mX12_cart.2.1 58 = .ok (.if_icmp .eq 13, 3) := by decide +kernel
theorem dX12_cart_61 : decode mX12_cart.2.1 61 = .ok (.aload_n 0, 1) := by decide +kernel
theorem dX12_cart_62 : decode mX12_cart.2.1 62 = .ok (.getfield 175, 3) := by decide +kernel
theorem dX12_cart_65 : decode mX12_cart.2.1 65 = .ok (.sipush 400, 3) := by decide +kernel
theorem dX12_cart_68 : decode mX12_cart.2.1 68 = .ok (.if_icmp .ne 5, 3) := by decide +kernel
theorem dX12_cart_71 : decode mX12_cart.2.1 71 = .ok (.iconst (-1), 1) := by decide +kernel
theorem dX12_cart_72 : decode mX12_cart.2.1 72 = .ok (.ireturn, 1) := by decide +kernel
theorem dX12_cart_73 : decode mX12_cart.2.1 73 = .ok (.aload_n 0, 1) := by decide +kernel
theorem dX12_cart_74 : decode mX12_cart.2.1 74 = .ok (.getfield 40, 3) := by decide +kernel
theorem dX12_cart_77 : decode mX12_cart.2.1 77 = .ok (.aload_n 0, 1) := by decide +kernel
theorem dX12_cart_78 : decode mX12_cart.2.1 78 = .ok (.getfield 213, 3) := by decide +kernel
theorem dX12_cart_81 : decode mX12_cart.2.1 81 = .ok (.iload_n 1, 1) := by decide +kernel
theorem dX12_cart_82 : decode mX12_cart.2.1 82 = .ok (.iastore, 1) := by decide +kernel
theorem dX12_cart_83 : decode mX12_cart.2.1 83 = .ok (.aload_n 0, 1) := by decide +kernel
theorem dX12_cart_84 : decode mX12_cart.2.1 84 = .ok (.getfield 43, 3) := by decide +kernel
theorem dX12_cart_87 : decode mX12_cart.2.1 87 = .ok (.aload_n 0, 1) := by decide +kernel
theorem dX12_cart_88 : decode mX12_cart.2.1 88 = .ok (.getfield 213, 3) := by decide +kernel
theorem dX12_cart_91 : decode mX12_cart.2.1 91 = .ok (.iload_n 2, 1) := by decide +kernel
theorem dX12_cart_92 : decode mX12_cart.2.1 92 = .ok (.iastore, 1) := by decide +kernel
theorem dX12_cart_93 : decode mX12_cart.2.1 93 = .ok (.aload_n 0, 1) := by decide +kernel
theorem dX12_cart_94 : decode mX12_cart.2.1 94 = .ok (.getfield 46, 3) := by decide +kernel
theorem dX12_cart_97 : decode mX12_cart.2.1 97 = .ok (.aload_n 0, 1) := by decide +kernel
theorem dX12_cart_98 : decode mX12_cart.2.1 98 = .ok (.getfield 213, 3) := by decide +kernel
theorem dX12_cart_101 : decode mX12_cart.2.1 101 = .ok (.iload_n 3, 1) := by decide +kernel
theorem dX12_cart_102 : decode mX12_cart.2.1 102 = .ok (.iastore, 1) := by decide +kernel
theorem dX12_cart_103 : decode mX12_cart.2.1 103 = .ok (.aload_n 0, 1) := by decide +kernel
theorem dX12_cart_104 : decode mX12_cart.2.1 104 = .ok (.getfield 49, 3) := by decide +kernel
theorem dX12_cart_107 : decode mX12_cart.2.1 107 = .ok (.aload_n 0, 1) := by decide +kernel
theorem dX12_cart_108 : decode mX12_cart.2.1 108 = .ok (.getfield 213, 3) := by decide +kernel
theorem dX12_cart_111 : decode mX12_cart.2.1 111 = .ok (.iload 4, 2) := by decide +kernel
theorem dX12_cart_113 : decode mX12_cart.2.1 113 = .ok (.iastore, 1) := by decide +kernel
theorem dX12_cart_114 : decode mX12_cart.2.1 114 = .ok (.aload_n 0, 1) := by decide +kernel
theorem dX12_cart_115 : decode mX12_cart.2.1 115 = .ok (.getfield 52, 3) := by decide +kernel
theorem dX12_cart_118 : decode mX12_cart.2.1 118 = .ok (.aload_n 0, 1) := by decide +kernel
theorem dX12_cart_119 : decode mX12_cart.2.1 119 = .ok (.getfield 213, 3) := by decide +kernel
theorem dX12_cart_122 : decode mX12_cart.2.1 122 = .ok (.iload 5, 2) := by decide +kernel
theorem dX12_cart_124 : decode mX12_cart.2.1 124 = .ok (.iastore, 1) := by decide +kernel
theorem dX12_cart_125 : decode mX12_cart.2.1 125 = .ok (.aload_n 0, 1) := by decide +kernel
theorem dX12_cart_126 : decode mX12_cart.2.1 126 = .ok (.dup, 1) := by decide +kernel
theorem dX12_cart_127 : decode mX12_cart.2.1 127 = .ok (.getfield 213, 3) := by decide +kernel
theorem dX12_cart_130 : decode mX12_cart.2.1 130 = .ok (.iconst 1, 1) := by decide +kernel
theorem dX12_cart_131 : decode mX12_cart.2.1 131 = .ok (.iadd, 1) := by decide +kernel
theorem dX12_cart_132 : decode mX12_cart.2.1 132 = .ok (.putfield 213, 3) := by decide +kernel
theorem dX12_cart_135 : decode mX12_cart.2.1 135 = .ok (.aload_n 0, 1) := by decide +kernel
theorem dX12_cart_136 : decode mX12_cart.2.1 136 = .ok (.iconst 3, 1) := by decide +kernel
theorem dX12_cart_137 : decode mX12_cart.2.1 137 = .ok (.aload_n 0, 1) := by decide +kernel
theorem dX12_cart_138 : decode mX12_cart.2.1 138 = .ok (.getfield 213, 3) := by decide +kernel
theorem dX12_cart_141 : decode mX12_cart.2.1 141 = .ok (.iconst 1, 1) := by decide +kernel
theorem dX12_cart_142 : decode mX12_cart.2.1 142 = .ok (.isub, 1) := by decide +kernel
theorem dX12_cart_143 : decode mX12_cart.2.1 143 = .ok (.iconst 0, 1) := by decide +kernel
theorem dX12_cart_144 : decode mX12_cart.2.1 144 = .ok (.iconst 0, 1) := by decide +kernel
theorem dX12_cart_145 : decode mX12_cart.2.1 145 = .ok (.invokevirtual 203, 3) := by decide +kernel
theorem dX12_cart_148 : decode mX12_cart.2.1 148 = .ok (.aload_n 0, 1) := by decide +kernel
theorem dX12_cart_149 : decode mX12_cart.2.1 149 = .ok (.getfield 213, 3) := by decide +kernel
theorem dX12_cart_152 : decode mX12_cart.2.1 152 = .ok (.iconst 1, 1) := by decide +kernel
theorem dX12_cart_153 : decode mX12_cart.2.1 153 = .ok (.isub, 1) := by decide +kernel
theorem dX12_cart_154 : decode mX12_cart.2.1 154 = .ok (.ireturn, 1) := by decide +kernel
theorem dX12_charge_0 : decode mX12_charge.2.1 0 = .ok (.aload_n 0, 1) := by decide +kernel
theorem dX12_charge_1 : decode mX12_charge.2.1 1 = .ok (.iload_n 1, 1) := by decide +kernel
theorem dX12_charge_2 : decode mX12_charge.2.1 2 = .ok (.invokevirtual 216, 3) := by decide +kernel
theorem dX12_charge_5 : decode mX12_charge.2.1 5 = .ok (.ifCond .eq 27, 3) := by decide +kernel
theorem dX12_charge_8 : decode mX12_charge.2.1 8 = .ok (.aload_n 0, 1) := by decide +kernel
theorem dX12_charge_9 : decode mX12_charge.2.1 9 = .ok (.getfield 7, 3) := by decide +kernel
theorem dX12_charge_12 : decode mX12_charge.2.1 12 = .ok (.sipush 976, 3) := by decide +kernel
theorem dX12_charge_15 : decode mX12_charge.2.1 15 = .ok (.iload_n 1, 1) := by decide +kernel
theorem dX12_charge_16 : decode mX12_charge.2.1 16 = .ok (.iadd, 1) := by decide +kernel
theorem dX12_charge_17 : decode mX12_charge.2.1 17 = .ok (.iaload, 1) := by decide +kernel
theorem dX12_charge_18 : decode mX12_charge.2.1 18 = .ok (.iconst 5, 1) := by decide +kernel
theorem dX12_charge_19 : decode mX12_charge.2.1 19 = .ok (.if_icmp .ne 13, 3) := by decide +kernel
theorem dX12_charge_22 : decode mX12_charge.2.1 22 = .ok (.aload_n 0, 1) := by decide +kernel
theorem dX12_charge_23 : decode mX12_charge.2.1 23 = .ok (.getfield 175, 3) := by decide +kernel
theorem dX12_charge_26 : decode mX12_charge.2.1 26 = .ok (.sipush 400, 3) := by decide +kernel
theorem dX12_charge_29 : decode mX12_charge.2.1 29 = .ok (.if_icmp .ne 5, 3) := by decide +kernel
theorem dX12_charge_32 : decode mX12_charge.2.1 32 = .ok (.iconst 0, 1) := by decide +kernel
theorem dX12_charge_33 : decode mX12_charge.2.1 33 = .ok (.ireturn, 1) := by decide +kernel
theorem dX12_charge_34 : decode mX12_charge.2.1 34 = .ok (.aload_n 0, 1) := by decide +kernel
theorem dX12_charge_35 : decode mX12_charge.2.1 35 = .ok (.iconst 4, 1) := by decide +kernel
theorem dX12_charge_36 : decode mX12_charge.2.1 36 = .ok (.iload_n 1, 1) := by decide +kernel
theorem dX12_charge_37 : decode mX12_charge.2.1 37 = .ok (.iconst 0, 1) := by decide +kernel
theorem dX12_charge_38 : decode mX12_charge.2.1 38 = .ok (.iconst 0, 1) := by decide +kernel
theorem dX12_charge_39 : decode mX12_charge.2.1 39 = .ok (.invokevirtual 203, 3) := by decide +kernel
theorem dX12_charge_42 : decode mX12_charge.2.1 42 = .ok (.iconst 1, 1) := by decide +kernel
theorem dX12_charge_43 : decode mX12_charge.2.1 43 = .ok (.ireturn, 1) := by decide +kernel
theorem dX12_work_0 : decode mX12_work.2.1 0 = .ok (.iload_n 1, 1) := by decide +kernel
theorem dX12_work_1 : decode mX12_work.2.1 1 = .ok (.iconst 0, 1) := by decide +kernel
theorem dX12_work_2 : decode mX12_work.2.1 2 = .ok (.iconst 3, 1) := by decide +kernel
theorem dX12_work_3 : decode mX12_work.2.1 3 = .ok (.invokestatic 162, 3) := by decide +kernel
theorem dX12_work_6 : decode mX12_work.2.1 6 = .ok (.ifCond .eq 52, 3) := by decide +kernel
theorem dX12_work_9 : decode mX12_work.2.1 9 = .ok (.iload_n 2, 1) := by decide +kernel
theorem dX12_work_10 : decode mX12_work.2.1 10 = .ok (.invokestatic 199, 3) := by decide +kernel
theorem dX12_work_13 : decode mX12_work.2.1 13 = .ok (.ifCond .eq 45, 3) := by decide +kernel
theorem dX12_work_16 : decode mX12_work.2.1 16 = .ok (.iload_n 1, 1) := by decide +kernel
theorem dX12_work_17 : decode mX12_work.2.1 17 = .ok (.iconst 2, 1) := by decide +kernel
theorem dX12_work_18 : decode mX12_work.2.1 18 = .ok (.if_icmp .ne 17, 3) := by decide +kernel
theorem dX12_work_21 : decode mX12_work.2.1 21 = .ok (.iload_n 3, 1) := by decide +kernel
theorem dX12_work_22 : decode mX12_work.2.1 22 = .ok (.iconst 1, 1) := by decide +kernel
theorem dX12_work_23 : decode mX12_work.2.1 23 = .ok (.sipush 999, 3) := by decide +kernel
theorem dX12_work_26 : decode mX12_work.2.1 26 = .ok (.invokestatic 162, 3) := by decide +kernel
theorem dX12_work_29 : decode mX12_work.2.1 29 = .ok (.ifCond .eq 29, 3) := by decide +kernel
theorem dX12_work_32 : decode mX12_work.2.1 32 = .ok (.goto 7, 3) := by decide +kernel
theorem dX12_work_35 : decode mX12_work.2.1 35 = .ok (.iload_n 3, 1) := by decide +kernel
theorem dX12_work_36 : decode mX12_work.2.1 36 = .ok (.ifCond .ne 22, 3) := by decide +kernel
theorem dX12_work_39 : decode mX12_work.2.1 39 = .ok (.aload_n 0, 1) := by decide +kernel
theorem dX12_work_40 : decode mX12_work.2.1 40 = .ok (.getfield 219, 3) := by decide +kernel
theorem dX12_work_43 : decode mX12_work.2.1 43 = .ok (.bipush 60, 2) := by decide +kernel
theorem dX12_work_45 : decode mX12_work.2.1 45 = .ok (.if_icmp .eq 13, 3) := by decide +kernel
theorem dX12_work_48 : decode mX12_work.2.1 48 = .ok (.aload_n 0, 1) := by decide +kernel
theorem dX12_work_49 : decode mX12_work.2.1 49 = .ok (.getfield 175, 3) := by decide +kernel
theorem dX12_work_52 : decode mX12_work.2.1 52 = .ok (.sipush 400, 3) := by decide +kernel
theorem dX12_work_55 : decode mX12_work.2.1 55 = .ok (.if_icmp .ne 5, 3) := by decide +kernel
theorem dX12_work_58 : decode mX12_work.2.1 58 = .ok (.iconst (-1), 1) := by decide +kernel
theorem dX12_work_59 : decode mX12_work.2.1 59 = .ok (.ireturn, 1) := by decide +kernel
theorem dX12_work_60 : decode mX12_work.2.1 60 = .ok (.aload_n 0, 1) := by decide +kernel
theorem dX12_work_61 : decode mX12_work.2.1 61 = .ok (.getfield 55, 3) := by decide +kernel
theorem dX12_work_64 : decode mX12_work.2.1 64 = .ok (.aload_n 0, 1) := by decide +kernel
theorem dX12_work_65 : decode mX12_work.2.1 65 = .ok (.getfield 219, 3) := by decide +kernel
theorem dX12_work_68 : decode mX12_work.2.1 68 = .ok (.iload_n 1, 1) := by decide +kernel
theorem dX12_work_69 : decode mX12_work.2.1 69 = .ok (.iastore, 1) := by decide +kernel
theorem dX12_work_70 : decode mX12_work.2.1 70 = .ok (.aload_n 0, 1) := by decide +kernel
theorem dX12_work_71 : decode mX12_work.2.1 71 = .ok (.getfield 58, 3) := by decide +kernel
theorem dX12_work_74 : decode mX12_work.2.1 74 = .ok (.aload_n 0, 1) := by decide +kernel
theorem dX12_work_75 : decode mX12_work.2.1 75 = .ok (.getfield 219, 3) := by decide +kernel
theorem dX12_work_78 : decode mX12_work.2.1 78 = .ok (.iload_n 2, 1) := by decide +kernel
theorem dX12_work_79 : decode mX12_work.2.1 79 = .ok (.iastore, 1) := by decide +kernel
theorem dX12_work_80 : decode mX12_work.2.1 80 = .ok (.aload_n 0, 1) := by decide +kernel
theorem dX12_work_81 : decode mX12_work.2.1 81 = .ok (.getfield 61, 3) := by decide +kernel
theorem dX12_work_84 : decode mX12_work.2.1 84 = .ok (.aload_n 0, 1) := by decide +kernel
theorem dX12_work_85 : decode mX12_work.2.1 85 = .ok (.getfield 219, 3) := by decide +kernel
theorem dX12_work_88 : decode mX12_work.2.1 88 = .ok (.iload_n 3, 1) := by decide +kernel
theorem dX12_work_89 : decode mX12_work.2.1 89 = .ok (.iastore, 1) := by decide +kernel
theorem dX12_work_90 : decode mX12_work.2.1 90 = .ok (.aload_n 0, 1) := by decide +kernel
theorem dX12_work_91 : decode mX12_work.2.1 91 = .ok (.dup, 1) := by decide +kernel
theorem dX12_work_92 : decode mX12_work.2.1 92 = .ok (.getfield 219, 3) := by decide +kernel
theorem dX12_work_95 : decode mX12_work.2.1 95 = .ok (.iconst 1, 1) := by decide +kernel
theorem dX12_work_96 : decode mX12_work.2.1 96 = .ok (.iadd, 1) := by decide +kernel
theorem dX12_work_97 : decode mX12_work.2.1 97 = .ok (.putfield 219, 3) := by decide +kernel
theorem dX12_work_100 : decode mX12_work.2.1 100 = .ok (.aload_n 0, 1) := by decide +kernel
theorem dX12_work_101 : decode mX12_work.2.1 101 = .ok (.iconst 5, 1) := by decide +kernel
theorem dX12_work_102 : decode mX12_work.2.1 102 = .ok (.aload_n 0, 1) := by decide +kernel
theorem dX12_work_103 : decode mX12_work.2.1 103 = .ok (.getfield 219, 3) := by decide +kernel
theorem dX12_work_106 : decode mX12_work.2.1 106 = .ok (.iconst 1, 1) := by decide +kernel
theorem dX12_work_107 : decode mX12_work.2.1 107 = .ok (.isub, 1) := by decide +kernel
theorem dX12_work_108 : decode mX12_work.2.1 108 = .ok (.iconst 0, 1) := by decide +kernel
theorem dX12_work_109 : decode mX12_work.2.1 109 = .ok (.iconst 0, 1) := by decide +kernel
theorem dX12_work_110 : decode mX12_work.2.1 110 = .ok (.invokevirtual 203, 3) := by decide +kernel
theorem dX12_work_113 : decode mX12_work.2.1 113 = .ok (.aload_n 0, 1) := by decide +kernel
theorem dX12_work_114 : decode mX12_work.2.1 114 = .ok (.getfield 219, 3) := by decide +kernel
theorem dX12_work_117 : decode mX12_work.2.1 117 = .ok (.iconst 1, 1) := by decide +kernel
theorem dX12_work_118 : decode mX12_work.2.1 118 = .ok (.isub, 1) := by decide +kernel
theorem dX12_work_119 : decode mX12_work.2.1 119 = .ok (.ireturn, 1) := by decide +kernel
theorem dX12_lot_0 : decode mX12_lot.2.1 0 = .ok (.iload_n 1, 1) := by decide +kernel
theorem dX12_lot_1 : decode mX12_lot.2.1 1 = .ok (.iconst 0, 1) := by decide +kernel
theorem dX12_lot_2 : decode mX12_lot.2.1 2 = .ok (.bipush 99, 2) := by decide +kernel
theorem dX12_lot_4 : decode mX12_lot.2.1 4 = .ok (.invokestatic 162, 3) := by decide +kernel
theorem dX12_lot_7 : decode mX12_lot.2.1 7 = .ok (.ifCond .eq 22, 3) := by decide +kernel
theorem dX12_lot_10 : decode mX12_lot.2.1 10 = .ok (.aload_n 0, 1) := by decide +kernel
theorem dX12_lot_11 : decode mX12_lot.2.1 11 = .ok (.getfield 222, 3) := by decide +kernel
theorem dX12_lot_14 : decode mX12_lot.2.1 14 = .ok (.bipush 40, 2) := by decide +kernel
theorem dX12_lot_16 : decode mX12_lot.2.1 16 = .ok (.if_icmp .eq 13, 3) := by decide +kernel
theorem dX12_lot_19 : decode mX12_lot.2.1 19 = .ok (.aload_n 0, 1) := by decide +kernel
theorem dX12_lot_20 : decode mX12_lot.2.1 20 = .ok (.getfield 175, 3) := by decide +kernel
theorem dX12_lot_23 : decode mX12_lot.2.1 23 = .ok (.sipush 400, 3) := by decide +kernel
theorem dX12_lot_26 : decode mX12_lot.2.1 26 = .ok (.if_icmp .ne 5, 3) := by decide +kernel
theorem dX12_lot_29 : decode mX12_lot.2.1 29 = .ok (.iconst (-1), 1) := by decide +kernel
theorem dX12_lot_30 : decode mX12_lot.2.1 30 = .ok (.ireturn, 1) := by decide +kernel
theorem dX12_lot_31 : decode mX12_lot.2.1 31 = .ok (.aload_n 0, 1) := by decide +kernel
theorem dX12_lot_32 : decode mX12_lot.2.1 32 = .ok (.getfield 64, 3) := by decide +kernel
theorem dX12_lot_35 : decode mX12_lot.2.1 35 = .ok (.aload_n 0, 1) := by decide +kernel
theorem dX12_lot_36 : decode mX12_lot.2.1 36 = .ok (.getfield 222, 3) := by decide +kernel
theorem dX12_lot_39 : decode mX12_lot.2.1 39 = .ok (.iload_n 1, 1) := by decide +kernel
theorem dX12_lot_40 : decode mX12_lot.2.1 40 = .ok (.iastore, 1) := by decide +kernel
theorem dX12_lot_41 : decode mX12_lot.2.1 41 = .ok (.aload_n 0, 1) := by decide +kernel
theorem dX12_lot_42 : decode mX12_lot.2.1 42 = .ok (.dup, 1) := by decide +kernel
theorem dX12_lot_43 : decode mX12_lot.2.1 43 = .ok (.getfield 222, 3) := by decide +kernel
theorem dX12_lot_46 : decode mX12_lot.2.1 46 = .ok (.iconst 1, 1) := by decide +kernel
theorem dX12_lot_47 : decode mX12_lot.2.1 47 = .ok (.iadd, 1) := by decide +kernel
theorem dX12_lot_48 : decode mX12_lot.2.1 48 = .ok (.putfield 222, 3) := by decide +kernel
theorem dX12_lot_51 : decode mX12_lot.2.1 51 = .ok (.aload_n 0, 1) := by decide +kernel
theorem dX12_lot_52 : decode mX12_lot.2.1 52 = .ok (.bipush 6, 2) := by decide +kernel
theorem dX12_lot_54 : decode mX12_lot.2.1 54 = .ok (.iconst 0, 1) := by decide +kernel
theorem dX12_lot_55 : decode mX12_lot.2.1 55 = .ok (.iconst 0, 1) := by decide +kernel
theorem dX12_lot_56 : decode mX12_lot.2.1 56 = .ok (.iconst 0, 1) := by decide +kernel
theorem dX12_lot_57 : decode mX12_lot.2.1 57 = .ok (.invokevirtual 203, 3) := by decide +kernel
theorem dX12_lot_60 : decode mX12_lot.2.1 60 = .ok (.aload_n 0, 1) := by decide +kernel
theorem dX12_lot_61 : decode mX12_lot.2.1 61 = .ok (.getfield 222, 3) := by decide +kernel
theorem dX12_lot_64 : decode mX12_lot.2.1 64 = .ok (.ireturn, 1) := by decide +kernel
theorem dX12_kind_0 : decode mX12_kind.2.1 0 = .ok (.iload_n 2, 1) := by decide +kernel
theorem dX12_kind_1 : decode mX12_kind.2.1 1 = .ok (.iconst 1, 1) := by decide +kernel
theorem dX12_kind_2 : decode mX12_kind.2.1 2 = .ok (.bipush 100, 2) := by decide +kernel
theorem dX12_kind_4 : decode mX12_kind.2.1 4 = .ok (.invokestatic 162, 3) := by decide +kernel
theorem dX12_kind_7 : decode mX12_kind.2.1 7 = .ok (.ifCond .eq 64, 3) := by decide +kernel
theorem dX12_kind_10 : decode mX12_kind.2.1 10 = .ok (.iload_n 3, 1) := by decide +kernel
theorem dX12_kind_11 : decode mX12_kind.2.1 11 = .ok (.iconst 1, 1) := by decide +kernel
theorem dX12_kind_12 : decode mX12_kind.2.1 12 = .ok (.bipush 99, 2) := by decide +kernel
theorem dX12_kind_14 : decode mX12_kind.2.1 14 = .ok (.invokestatic 162, 3) := by decide +kernel
theorem dX12_kind_17 : decode mX12_kind.2.1 17 = .ok (.ifCond .eq 54, 3) := by decide +kernel
theorem dX12_kind_20 : decode mX12_kind.2.1 20 = .ok (.iload 4, 2) := by decide +kernel
theorem dX12_kind_22 : decode mX12_kind.2.1 22 = .ok (.iconst 1, 1) := by decide +kernel
theorem dX12_kind_23 : decode mX12_kind.2.1 23 = .ok (.bipush 99, 2) := by decide +kernel
theorem dX12_kind_25 : decode mX12_kind.2.1 25 = .ok (.invokestatic 162, 3) := by decide +kernel
theorem dX12_kind_28 : decode mX12_kind.2.1 28 = .ok (.ifCond .eq 43, 3) := by decide +kernel
theorem dX12_kind_31 : decode mX12_kind.2.1 31 = .ok (.iload 5, 2) := by decide +kernel
theorem dX12_kind_33 : decode mX12_kind.2.1 33 = .ok (.iconst 1, 1) := by decide +kernel
theorem dX12_kind_34 : decode mX12_kind.2.1 34 = .ok (.bipush 99, 2) := by decide +kernel
theorem dX12_kind_36 : decode mX12_kind.2.1 36 = .ok (.invokestatic 162, 3) := by decide +kernel
theorem dX12_kind_39 : decode mX12_kind.2.1 39 = .ok (.ifCond .eq 32, 3) := by decide +kernel
theorem dX12_kind_42 : decode mX12_kind.2.1 42 = .ok (.iload 6, 2) := by decide +kernel
theorem dX12_kind_44 : decode mX12_kind.2.1 44 = .ok (.iconst 1, 1) := by decide +kernel
theorem dX12_kind_45 : decode mX12_kind.2.1 45 = .ok (.bipush 99, 2) := by decide +kernel
theorem dX12_kind_47 : decode mX12_kind.2.1 47 = .ok (.invokestatic 162, 3) := by decide +kernel
theorem dX12_kind_50 : decode mX12_kind.2.1 50 = .ok (.ifCond .eq 21, 3) := by decide +kernel
theorem dX12_kind_53 : decode mX12_kind.2.1 53 = .ok (.aload_n 0, 1) := by decide +kernel
theorem dX12_kind_54 : decode mX12_kind.2.1 54 = .ok (.getfield 225, 3) := by decide +kernel
theorem dX12_kind_57 : decode mX12_kind.2.1 57 = .ok (.iconst 5, 1) := by decide +kernel
theorem dX12_kind_58 : decode mX12_kind.2.1 58 = .ok (.if_icmp .eq 13, 3) := by decide +kernel
theorem dX12_kind_61 : decode mX12_kind.2.1 61 = .ok (.aload_n 0, 1) := by decide +kernel
theorem dX12_kind_62 : decode mX12_kind.2.1 62 = .ok (.getfield 175, 3) := by decide +kernel
theorem dX12_kind_65 : decode mX12_kind.2.1 65 = .ok (.sipush 400, 3) := by decide +kernel
theorem dX12_kind_68 : decode mX12_kind.2.1 68 = .ok (.if_icmp .ne 5, 3) := by decide +kernel
theorem dX12_kind_71 : decode mX12_kind.2.1 71 = .ok (.iconst (-1), 1) := by decide +kernel
theorem dX12_kind_72 : decode mX12_kind.2.1 72 = .ok (.ireturn, 1) := by decide +kernel
theorem dX12_kind_73 : decode mX12_kind.2.1 73 = .ok (.aload_n 0, 1) := by decide +kernel
theorem dX12_kind_74 : decode mX12_kind.2.1 74 = .ok (.getfield 73, 3) := by decide +kernel
theorem dX12_kind_77 : decode mX12_kind.2.1 77 = .ok (.aload_n 0, 1) := by decide +kernel
theorem dX12_kind_78 : decode mX12_kind.2.1 78 = .ok (.getfield 225, 3) := by decide +kernel
theorem dX12_kind_81 : decode mX12_kind.2.1 81 = .ok (.iload_n 1, 1) := by decide +kernel
theorem dX12_kind_82 : decode mX12_kind.2.1 82 = .ok (.bastore, 1) := by decide +kernel
theorem dX12_kind_83 : decode mX12_kind.2.1 83 = .ok (.aload_n 0, 1) := by decide +kernel
theorem dX12_kind_84 : decode mX12_kind.2.1 84 = .ok (.getfield 67, 3) := by decide +kernel
theorem dX12_kind_87 : decode mX12_kind.2.1 87 = .ok (.aload_n 0, 1) := by decide +kernel
theorem dX12_kind_88 : decode mX12_kind.2.1 88 = .ok (.getfield 225, 3) := by decide +kernel
theorem dX12_kind_91 : decode mX12_kind.2.1 91 = .ok (.iload_n 2, 1) := by decide +kernel
theorem dX12_kind_92 : decode mX12_kind.2.1 92 = .ok (.iastore, 1) := by decide +kernel
theorem dX12_kind_93 : decode mX12_kind.2.1 93 = .ok (.aload_n 0, 1) := by decide +kernel
theorem dX12_kind_94 : decode mX12_kind.2.1 94 = .ok (.getfield 70, 3) := by decide +kernel
theorem dX12_kind_97 : decode mX12_kind.2.1 97 = .ok (.iconst 4, 1) := by decide +kernel
theorem dX12_kind_98 : decode mX12_kind.2.1 98 = .ok (.aload_n 0, 1) := by decide +kernel
theorem dX12_kind_99 : decode mX12_kind.2.1 99 = .ok (.getfield 225, 3) := by decide +kernel
theorem dX12_kind_102 : decode mX12_kind.2.1 102 = .ok (.imul, 1) := by decide +kernel
theorem dX12_kind_103 : decode mX12_kind.2.1 103 = .ok (.iload_n 3, 1) := by decide +kernel
theorem dX12_kind_104 : decode mX12_kind.2.1 104 = .ok (.iastore, 1) := by decide +kernel
theorem dX12_kind_105 : decode mX12_kind.2.1 105 = .ok (.aload_n 0, 1) := by decide +kernel
theorem dX12_kind_106 : decode mX12_kind.2.1 106 = .ok (.getfield 70, 3) := by decide +kernel
theorem dX12_kind_109 : decode mX12_kind.2.1 109 = .ok (.iconst 4, 1) := by decide +kernel
theorem dX12_kind_110 : decode mX12_kind.2.1 110 = .ok (.aload_n 0, 1) := by decide +kernel
theorem dX12_kind_111 : decode mX12_kind.2.1 111 = .ok (.getfield 225, 3) := by decide +kernel
theorem dX12_kind_114 : decode mX12_kind.2.1 114 = .ok (.imul, 1) := by decide +kernel
theorem dX12_kind_115 : decode mX12_kind.2.1 115 = .ok (.iconst 1, 1) := by decide +kernel
theorem dX12_kind_116 : decode mX12_kind.2.1 116 = .ok (.iadd, 1) := by decide +kernel
theorem dX12_kind_117 : decode mX12_kind.2.1 117 = .ok (.iload 4, 2) := by decide +kernel
theorem dX12_kind_119 : decode mX12_kind.2.1 119 = .ok (.iastore, 1) := by decide +kernel
theorem dX12_kind_120 : decode mX12_kind.2.1 120 = .ok (.aload_n 0, 1) := by decide +kernel
theorem dX12_kind_121 : decode mX12_kind.2.1 121 = .ok (.getfield 70, 3) := by decide +kernel
theorem dX12_kind_124 : decode mX12_kind.2.1 124 = .ok (.iconst 4, 1) := by decide +kernel
theorem dX12_kind_125 : decode mX12_kind.2.1 125 = .ok (.aload_n 0, 1) := by decide +kernel
theorem dX12_kind_126 : decode mX12_kind.2.1 126 = .ok (.getfield 225, 3) := by decide +kernel
theorem dX12_kind_129 : decode mX12_kind.2.1 129 = .ok (.imul, 1) := by decide +kernel
theorem dX12_kind_130 : decode mX12_kind.2.1 130 = .ok (.iconst 2, 1) := by decide +kernel
theorem dX12_kind_131 : decode mX12_kind.2.1 131 = .ok (.iadd, 1) := by decide +kernel
theorem dX12_kind_132 : decode mX12_kind.2.1 132 = .ok (.iload 5, 2) := by decide +kernel
theorem dX12_kind_134 : decode mX12_kind.2.1 134 = .ok (.iastore, 1) := by decide +kernel
theorem dX12_kind_135 : decode mX12_kind.2.1 135 = .ok (.aload_n 0, 1) := by decide +kernel
theorem dX12_kind_136 : decode mX12_kind.2.1 136 = .ok (.getfield 70, 3) := by decide +kernel
theorem dX12_kind_139 : decode mX12_kind.2.1 139 = .ok (.iconst 4, 1) := by decide +kernel
theorem dX12_kind_140 : decode mX12_kind.2.1 140 = .ok (.aload_n 0, 1) := by decide +kernel
theorem dX12_kind_141 : decode mX12_kind.2.1 141 = .ok (.getfield 225, 3) := by decide +kernel
theorem dX12_kind_144 : decode mX12_kind.2.1 144 = .ok (.imul, 1) := by decide +kernel
theorem dX12_kind_145 : decode mX12_kind.2.1 145 = .ok (.iconst 3, 1) := by decide +kernel
theorem dX12_kind_146 : decode mX12_kind.2.1 146 = .ok (.iadd, 1) := by decide +kernel
theorem dX12_kind_147 : decode mX12_kind.2.1 147 = .ok (.iload 6, 2) := by decide +kernel
theorem dX12_kind_149 : decode mX12_kind.2.1 149 = .ok (.iastore, 1) := by decide +kernel
theorem dX12_kind_150 : decode mX12_kind.2.1 150 = .ok (.aload_n 0, 1) := by decide +kernel
theorem dX12_kind_151 : decode mX12_kind.2.1 151 = .ok (.dup, 1) := by decide +kernel
theorem dX12_kind_152 : decode mX12_kind.2.1 152 = .ok (.getfield 225, 3) := by decide +kernel
theorem dX12_kind_155 : decode mX12_kind.2.1 155 = .ok (.iconst 1, 1) := by decide +kernel
theorem dX12_kind_156 : decode mX12_kind.2.1 156 = .ok (.iadd, 1) := by decide +kernel
theorem dX12_kind_157 : decode mX12_kind.2.1 157 = .ok (.putfield 225, 3) := by decide +kernel
theorem dX12_kind_160 : decode mX12_kind.2.1 160 = .ok (.aload_n 0, 1) := by decide +kernel
theorem dX12_kind_161 : decode mX12_kind.2.1 161 = .ok (.bipush 7, 2) := by decide +kernel
theorem dX12_kind_163 : decode mX12_kind.2.1 163 = .ok (.iconst 0, 1) := by decide +kernel
theorem dX12_kind_164 : decode mX12_kind.2.1 164 = .ok (.iconst 0, 1) := by decide +kernel
theorem dX12_kind_165 : decode mX12_kind.2.1 165 = .ok (.iconst 0, 1) := by decide +kernel
theorem dX12_kind_166 : decode mX12_kind.2.1 166 = .ok (.invokevirtual 203, 3) := by decide +kernel
theorem dX12_kind_169 : decode mX12_kind.2.1 169 = .ok (.aload_n 0, 1) := by decide +kernel
theorem dX12_kind_170 : decode mX12_kind.2.1 170 = .ok (.getfield 225, 3) := by decide +kernel
theorem dX12_kind_173 : decode mX12_kind.2.1 173 = .ok (.iconst 1, 1) := by decide +kernel
theorem dX12_kind_174 : decode mX12_kind.2.1 174 = .ok (.isub, 1) := by decide +kernel
theorem dX12_kind_175 : decode mX12_kind.2.1 175 = .ok (.ireturn, 1) := by decide +kernel
theorem dX12_plant_0 : decode mX12_plant.2.1 0 = .ok (.iload_n 1, 1) := by decide +kernel
theorem dX12_plant_1 : decode mX12_plant.2.1 1 = .ok (.invokestatic 199, 3) := by decide +kernel
theorem dX12_plant_4 : decode mX12_plant.2.1 4 = .ok (.ifCond .eq 28, 3) := by decide +kernel
theorem dX12_plant_7 : decode mX12_plant.2.1 7 = .ok (.aload_n 0, 1) := by decide +kernel
theorem dX12_plant_8 : decode mX12_plant.2.1 8 = .ok (.iload_n 1, 1) := by decide +kernel
theorem dX12_plant_9 : decode mX12_plant.2.1 9 = .ok (.invokevirtual 228, 3) := by decide +kernel
theorem dX12_plant_12 : decode mX12_plant.2.1 12 = .ok (.ifCond .ne 20, 3) := by decide +kernel
theorem dX12_plant_15 : decode mX12_plant.2.1 15 = .ok (.aload_n 0, 1) := by decide +kernel
theorem dX12_plant_16 : decode mX12_plant.2.1 16 = .ok (.getfield 225, 3) := by decide +kernel
theorem dX12_plant_19 : decode mX12_plant.2.1 19 = .ok (.ifCond .eq 13, 3) := by decide +kernel
theorem dX12_plant_22 : decode mX12_plant.2.1 22 = .ok (.aload_n 0, 1) := by decide +kernel
theorem dX12_plant_23 : decode mX12_plant.2.1 23 = .ok (.getfield 175, 3) := by decide +kernel
theorem dX12_plant_26 : decode mX12_plant.2.1 26 = .ok (.sipush 400, 3) := by decide +kernel
theorem dX12_plant_29 : decode mX12_plant.2.1 29 = .ok (.if_icmp .ne 5, 3) := by decide +kernel
theorem dX12_plant_32 : decode mX12_plant.2.1 32 = .ok (.iconst 0, 1) := by decide +kernel
theorem dX12_plant_33 : decode mX12_plant.2.1 33 = .ok (.ireturn, 1) := by decide +kernel
theorem dX12_plant_34 : decode mX12_plant.2.1 34 = .ok (.aload_n 0, 1) := by decide +kernel
theorem dX12_plant_35 : decode mX12_plant.2.1 35 = .ok (.bipush 8, 2) := by decide +kernel
theorem dX12_plant_37 : decode mX12_plant.2.1 37 = .ok (.iload_n 1, 1) := by decide +kernel
theorem dX12_plant_38 : decode mX12_plant.2.1 38 = .ok (.iconst 0, 1) := by decide +kernel
theorem dX12_plant_39 : decode mX12_plant.2.1 39 = .ok (.iconst 0, 1) := by decide +kernel
theorem dX12_plant_40 : decode mX12_plant.2.1 40 = .ok (.invokevirtual 203, 3) := by decide +kernel
theorem dX12_plant_43 : decode mX12_plant.2.1 43 = .ok (.iconst 1, 1) := by decide +kernel
theorem dX12_plant_44 : decode mX12_plant.2.1 44 = .ok (.ireturn, 1) := by decide +kernel
theorem dX12_show_0 : decode mX12_show.2.1 0 = .ok (.iload_n 1, 1) := by decide +kernel
theorem dX12_show_1 : decode mX12_show.2.1 1 = .ok (.invokestatic 199, 3) := by decide +kernel
theorem dX12_show_4 : decode mX12_show.2.1 4 = .ok (.ifCond .eq 23, 3) := by decide +kernel
theorem dX12_show_7 : decode mX12_show.2.1 7 = .ok (.iload_n 2, 1) := by decide +kernel
theorem dX12_show_8 : decode mX12_show.2.1 8 = .ok (.iconst 0, 1) := by decide +kernel
theorem dX12_show_9 : decode mX12_show.2.1 9 = .ok (.bipush 15, 2) := by decide +kernel
theorem dX12_show_11 : decode mX12_show.2.1 11 = .ok (.invokestatic 162, 3) := by decide +kernel
theorem dX12_show_14 : decode mX12_show.2.1 14 = .ok (.ifCond .eq 13, 3) := by decide +kernel
theorem dX12_show_17 : decode mX12_show.2.1 17 = .ok (.aload_n 0, 1) := by decide +kernel
theorem dX12_show_18 : decode mX12_show.2.1 18 = .ok (.getfield 175, 3) := by decide +kernel
theorem dX12_show_21 : decode mX12_show.2.1 21 = .ok (.sipush 400, 3) := by decide +kernel
theorem dX12_show_24 : decode mX12_show.2.1 24 = .ok (.if_icmp .ne 5, 3) := by decide +kernel
theorem dX12_show_27 : decode mX12_show.2.1 27 = .ok (.iconst 0, 1) := by decide +kernel
theorem dX12_show_28 : decode mX12_show.2.1 28 = .ok (.ireturn, 1) := by decide +kernel
theorem dX12_show_29 : decode mX12_show.2.1 29 = .ok (.aload_n 0, 1) := by decide +kernel
theorem dX12_show_30 : decode mX12_show.2.1 30 = .ok (.bipush 9, 2) := by decide +kernel
theorem dX12_show_32 : decode mX12_show.2.1 32 = .ok (.iload_n 1, 1) := by decide +kernel
theorem dX12_show_33 : decode mX12_show.2.1 33 = .ok (.iload_n 2, 1) := by decide +kernel
theorem dX12_show_34 : decode mX12_show.2.1 34 = .ok (.iconst 0, 1) := by decide +kernel
theorem dX12_show_35 : decode mX12_show.2.1 35 = .ok (.invokevirtual 203, 3) := by decide +kernel
theorem dX12_show_38 : decode mX12_show.2.1 38 = .ok (.iconst 1, 1) := by decide +kernel
theorem dX12_show_39 : decode mX12_show.2.1 39 = .ok (.ireturn, 1) := by decide +kernel
theorem dX12_look_0 : decode mX12_look.2.1 0 = .ok (.aload_n 0, 1) := by decide +kernel
theorem dX12_look_1 : decode mX12_look.2.1 1 = .ok (.iload_n 1, 1) := by decide +kernel
theorem dX12_look_2 : decode mX12_look.2.1 2 = .ok (.invokevirtual 228, 3) := by decide +kernel
theorem dX12_look_5 : decode mX12_look.2.1 5 = .ok (.ifCond .eq 23, 3) := by decide +kernel
theorem dX12_look_8 : decode mX12_look.2.1 8 = .ok (.iload_n 2, 1) := by decide +kernel
theorem dX12_look_9 : decode mX12_look.2.1 9 = .ok (.iconst 0, 1) := by decide +kernel
theorem dX12_look_10 : decode mX12_look.2.1 10 = .ok (.bipush 15, 2) := by decide +kernel
theorem dX12_look_12 : decode mX12_look.2.1 12 = .ok (.invokestatic 162, 3) := by decide +kernel
theorem dX12_look_15 : decode mX12_look.2.1 15 = .ok (.ifCond .eq 13, 3) := by decide +kernel
theorem dX12_look_18 : decode mX12_look.2.1 18 = .ok (.aload_n 0, 1) := by decide +kernel
theorem dX12_look_19 : decode mX12_look.2.1 19 = .ok (.getfield 175, 3) := by decide +kernel
theorem dX12_look_22 : decode mX12_look.2.1 22 = .ok (.sipush 400, 3) := by decide +kernel
theorem dX12_look_25 : decode mX12_look.2.1 25 = .ok (.if_icmp .ne 5, 3) := by decide +kernel
theorem dX12_look_28 : decode mX12_look.2.1 28 = .ok (.iconst 0, 1) := by decide +kernel
theorem dX12_look_29 : decode mX12_look.2.1 29 = .ok (.ireturn, 1) := by decide +kernel
theorem dX12_look_30 : decode mX12_look.2.1 30 = .ok (.aload_n 0, 1) := by decide +kernel
theorem dX12_look_31 : decode mX12_look.2.1 31 = .ok (.bipush 10, 2) := by decide +kernel
theorem dX12_look_33 : decode mX12_look.2.1 33 = .ok (.iload_n 1, 1) := by decide +kernel
theorem dX12_look_34 : decode mX12_look.2.1 34 = .ok (.iload_n 2, 1) := by decide +kernel
theorem dX12_look_35 : decode mX12_look.2.1 35 = .ok (.iconst 0, 1) := by decide +kernel
theorem dX12_look_36 : decode mX12_look.2.1 36 = .ok (.invokevirtual 203, 3) := by decide +kernel
theorem dX12_look_39 : decode mX12_look.2.1 39 = .ok (.iconst 1, 1) := by decide +kernel
theorem dX12_look_40 : decode mX12_look.2.1 40 = .ok (.ireturn, 1) := by decide +kernel
theorem dX12_ill_0 : decode mX12_ill.2.1 0 = .ok (.aload_n 0, 1) := by decide +kernel
theorem dX12_ill_1 : decode mX12_ill.2.1 1 = .ok (.iload_n 1, 1) := by decide +kernel
theorem dX12_ill_2 : decode mX12_ill.2.1 2 = .ok (.invokevirtual 228, 3) := by decide +kernel
theorem dX12_ill_5 : decode mX12_ill.2.1 5 = .ok (.ifCond .eq 30, 3) := by decide +kernel
theorem dX12_ill_8 : decode mX12_ill.2.1 8 = .ok (.aload_n 0, 1) := by decide +kernel
theorem dX12_ill_9 : decode mX12_ill.2.1 9 = .ok (.getfield 7, 3) := by decide +kernel
theorem dX12_ill_12 : decode mX12_ill.2.1 12 = .ok (.sipush 320, 3) := by decide +kernel
theorem dX12_ill_15 : decode mX12_ill.2.1 15 = .ok (.iload_n 1, 1) := by decide +kernel
theorem dX12_ill_16 : decode mX12_ill.2.1 16 = .ok (.iadd, 1) := by decide +kernel
theorem dX12_ill_17 : decode mX12_ill.2.1 17 = .ok (.iaload, 1) := by decide +kernel
theorem dX12_ill_18 : decode mX12_ill.2.1 18 = .ok (.iload_n 2, 1) := by decide +kernel
theorem dX12_ill_19 : decode mX12_ill.2.1 19 = .ok (.invokestatic 231, 3) := by decide +kernel
theorem dX12_ill_22 : decode mX12_ill.2.1 22 = .ok (.if_icmp .eq 13, 3) := by decide +kernel
theorem dX12_ill_25 : decode mX12_ill.2.1 25 = .ok (.aload_n 0, 1) := by decide +kernel
theorem dX12_ill_26 : decode mX12_ill.2.1 26 = .ok (.getfield 175, 3) := by decide +kernel
theorem dX12_ill_29 : decode mX12_ill.2.1 29 = .ok (.sipush 400, 3) := by decide +kernel
theorem dX12_ill_32 : decode mX12_ill.2.1 32 = .ok (.if_icmp .ne 5, 3) := by decide +kernel
theorem dX12_ill_35 : decode mX12_ill.2.1 35 = .ok (.iconst 0, 1) := by decide +kernel
theorem dX12_ill_36 : decode mX12_ill.2.1 36 = .ok (.ireturn, 1) := by decide +kernel
theorem dX12_ill_37 : decode mX12_ill.2.1 37 = .ok (.aload_n 0, 1) := by decide +kernel
theorem dX12_ill_38 : decode mX12_ill.2.1 38 = .ok (.bipush 11, 2) := by decide +kernel
theorem dX12_ill_40 : decode mX12_ill.2.1 40 = .ok (.iload_n 1, 1) := by decide +kernel
theorem dX12_ill_41 : decode mX12_ill.2.1 41 = .ok (.iload_n 2, 1) := by decide +kernel
theorem dX12_ill_42 : decode mX12_ill.2.1 42 = .ok (.invokestatic 231, 3) := by decide +kernel
theorem dX12_ill_45 : decode mX12_ill.2.1 45 = .ok (.iconst 0, 1) := by decide +kernel
theorem dX12_ill_46 : decode mX12_ill.2.1 46 = .ok (.invokevirtual 203, 3) := by decide +kernel
theorem dX12_ill_49 : decode mX12_ill.2.1 49 = .ok (.iconst 1, 1) := by decide +kernel
theorem dX12_ill_50 : decode mX12_ill.2.1 50 = .ok (.ireturn, 1) := by decide +kernel
theorem dX12_moves_0 : decode mX12_moves.2.1 0 = .ok (.aload_n 0, 1) := by decide +kernel
theorem dX12_moves_1 : decode mX12_moves.2.1 1 = .ok (.getfield 7, 3) := by decide +kernel
theorem dX12_moves_4 : decode mX12_moves.2.1 4 = .ok (.sipush 976, 3) := by decide +kernel
theorem dX12_moves_7 : decode mX12_moves.2.1 7 = .ok (.iload_n 1, 1) := by decide +kernel
theorem dX12_moves_8 : decode mX12_moves.2.1 8 = .ok (.iadd, 1) := by decide +kernel
theorem dX12_moves_9 : decode mX12_moves.2.1 9 = .ok (.iaload, 1) := by decide +kernel
theorem dX12_moves_10 : decode mX12_moves.2.1 10 = .ok (.iconst 2, 1) := by decide +kernel
theorem dX12_moves_11 : decode mX12_moves.2.1 11 = .ok (.if_icmp .ne 7, 3) := by decide +kernel
theorem dX12_moves_14 : decode mX12_moves.2.1 14 = .ok (.iconst 1, 1) := by decide +kernel
theorem dX12_moves_15 : decode mX12_moves.2.1 15 = .ok (.goto 4, 3) := by decide +kernel
theorem dX12_moves_18 : decode mX12_moves.2.1 18 = .ok (.iconst 0, 1) := by decide +kernel
theorem dX12_moves_19 : decode mX12_moves.2.1 19 = .ok (.istore_n 2, 1) := by decide +kernel
theorem dX12_moves_20 : decode mX12_moves.2.1 20 = .ok (.aload_n 0, 1) := by decide +kernel
theorem dX12_moves_21 : decode mX12_moves.2.1 21 = .ok (.getfield 7, 3) := by decide +kernel
theorem dX12_moves_24 : decode mX12_moves.2.1 24 = .ok (.sipush 984, 3) := by decide +kernel
theorem dX12_moves_27 : decode mX12_moves.2.1 27 = .ok (.iload_n 1, 1) := by decide +kernel
theorem dX12_moves_28 : decode mX12_moves.2.1 28 = .ok (.iadd, 1) := by decide +kernel
theorem dX12_moves_29 : decode mX12_moves.2.1 29 = .ok (.iaload, 1) := by decide +kernel
theorem dX12_moves_30 : decode mX12_moves.2.1 30 = .ok (.istore_n 3, 1) := by decide +kernel
theorem dX12_moves_31 : decode mX12_moves.2.1 31 = .ok (.iload_n 2, 1) := by decide +kernel
theorem dX12_moves_32 : decode mX12_moves.2.1 32 = .ok (.ifCond .eq 12, 3) := by decide +kernel
theorem dX12_moves_35 : decode mX12_moves.2.1 35 = .ok (.aload_n 0, 1) := by decide +kernel
theorem dX12_moves_36 : decode mX12_moves.2.1 36 = .ok (.getfield 49, 3) := by decide +kernel
theorem dX12_moves_39 : decode mX12_moves.2.1 39 = .ok (.iload_n 1, 1) := by decide +kernel
theorem dX12_moves_40 : decode mX12_moves.2.1 40 = .ok (.iaload, 1) := by decide +kernel
theorem dX12_moves_41 : decode mX12_moves.2.1 41 = .ok (.goto 9, 3) := by decide +kernel
theorem dX12_moves_44 : decode mX12_moves.2.1 44 = .ok (.aload_n 0, 1) := by decide +kernel
theorem dX12_moves_45 : decode mX12_moves.2.1 45 = .ok (.getfield 58, 3) := by decide +kernel
theorem dX12_moves_48 : decode mX12_moves.2.1 48 = .ok (.iload_n 3, 1) := by decide +kernel
theorem dX12_moves_49 : decode mX12_moves.2.1 49 = .ok (.iaload, 1) := by decide +kernel
theorem dX12_moves_50 : decode mX12_moves.2.1 50 = .ok (.istore 4, 2) := by decide +kernel
theorem dX12_moves_52 : decode mX12_moves.2.1 52 = .ok (.iload_n 2, 1) := by decide +kernel
theorem dX12_moves_53 : decode mX12_moves.2.1 53 = .ok (.ifCond .ne 17, 3) := by decide +kernel
theorem dX12_moves_56 : decode mX12_moves.2.1 56 = .ok (.aload_n 0, 1) := by decide +kernel
theorem dX12_moves_57 : decode mX12_moves.2.1 57 = .ok (.getfield 55, 3) := by decide +kernel
theorem dX12_moves_60 : decode mX12_moves.2.1 60 = .ok (.iload_n 3, 1) := by decide +kernel
theorem dX12_moves_61 : decode mX12_moves.2.1 61 = .ok (.iaload, 1) := by decide +kernel
theorem dX12_moves_62 : decode mX12_moves.2.1 62 = .ok (.iconst 3, 1) := by decide +kernel
theorem dX12_moves_63 : decode mX12_moves.2.1 63 = .ok (.if_icmp .ne 7, 3) := by decide +kernel
theorem dX12_moves_66 : decode mX12_moves.2.1 66 = .ok (.iconst 1, 1) := by decide +kernel
theorem dX12_moves_67 : decode mX12_moves.2.1 67 = .ok (.goto 4, 3) := by decide +kernel
theorem dX12_moves_70 : decode mX12_moves.2.1 70 = .ok (.iconst 0, 1) := by decide +kernel
theorem dX12_moves_71 : decode mX12_moves.2.1 71 = .ok (.istore 5, 2) := by decide +kernel
theorem dX12_moves_73 : decode mX12_moves.2.1 73 = .ok (.aload_n 0, 1) := by decide +kernel
theorem dX12_moves_74 : decode mX12_moves.2.1 74 = .ok (.getfield 7, 3) := by decide +kernel
theorem dX12_moves_77 : decode mX12_moves.2.1 77 = .ok (.sipush 960, 3) := by decide +kernel
theorem dX12_moves_80 : decode mX12_moves.2.1 80 = .ok (.iload_n 1, 1) := by decide +kernel
theorem dX12_moves_81 : decode mX12_moves.2.1 81 = .ok (.iadd, 1) := by decide +kernel
theorem dX12_moves_82 : decode mX12_moves.2.1 82 = .ok (.iaload, 1) := by decide +kernel
theorem dX12_moves_83 : decode mX12_moves.2.1 83 = .ok (.iload 4, 2) := by decide +kernel
theorem dX12_moves_85 : decode mX12_moves.2.1 85 = .ok (.iload 5, 2) := by decide +kernel
theorem dX12_moves_87 : decode mX12_moves.2.1 87 = .ok (.invokestatic 248, 3) := by decide +kernel
theorem dX12_moves_90 : decode mX12_moves.2.1 90 = .ok (.ifCond .eq 21, 3) := by decide +kernel
theorem dX12_moves_93 : decode mX12_moves.2.1 93 = .ok (.iload_n 2, 1) := by decide +kernel
theorem dX12_moves_94 : decode mX12_moves.2.1 94 = .ok (.ifCond .eq 11, 3) := by decide +kernel
theorem dX12_moves_97 : decode mX12_moves.2.1 97 = .ok (.aload_n 0, 1) := by decide +kernel
theorem dX12_moves_98 : decode mX12_moves.2.1 98 = .ok (.iload_n 1, 1) := by decide +kernel
theorem dX12_moves_99 : decode mX12_moves.2.1 99 = .ok (.invokevirtual 284, 3) := by decide +kernel
theorem dX12_moves_102 : decode mX12_moves.2.1 102 = .ok (.goto 8, 3) := by decide +kernel
theorem dX12_moves_105 : decode mX12_moves.2.1 105 = .ok (.aload_n 0, 1) := by decide +kernel
theorem dX12_moves_106 : decode mX12_moves.2.1 106 = .ok (.iload_n 1, 1) := by decide +kernel
theorem dX12_moves_107 : decode mX12_moves.2.1 107 = .ok (.invokevirtual 287, 3) := by decide +kernel
theorem dX12_moves_110 : decode mX12_moves.2.1 110 = .ok (.return_, 1) := by decide +kernel
theorem dX12_moves_111 : decode mX12_moves.2.1 111 = .ok (.aload_n 0, 1) := by decide +kernel
theorem dX12_moves_112 : decode mX12_moves.2.1 112 = .ok (.iload_n 1, 1) := by decide +kernel
theorem dX12_moves_113 : decode mX12_moves.2.1 113 = .ok (.iload 4, 2) := by decide +kernel
theorem dX12_moves_115 : decode mX12_moves.2.1 115 = .ok (.iload 5, 2) := by decide +kernel
theorem dX12_moves_117 : decode mX12_moves.2.1 117 = .ok (.invokevirtual 266, 3) := by decide +kernel
theorem dX12_moves_120 : decode mX12_moves.2.1 120 = .ok (.aload_n 0, 1) := by decide +kernel
theorem dX12_moves_121 : decode mX12_moves.2.1 121 = .ok (.iload_n 1, 1) := by decide +kernel
theorem dX12_moves_122 : decode mX12_moves.2.1 122 = .ok (.aload_n 0, 1) := by decide +kernel
theorem dX12_moves_123 : decode mX12_moves.2.1 123 = .ok (.getfield 7, 3) := by decide +kernel
theorem dX12_moves_126 : decode mX12_moves.2.1 126 = .ok (.sipush 960, 3) := by decide +kernel
theorem dX12_moves_129 : decode mX12_moves.2.1 129 = .ok (.iload_n 1, 1) := by decide +kernel
theorem dX12_moves_130 : decode mX12_moves.2.1 130 = .ok (.iadd, 1) := by decide +kernel
theorem dX12_moves_131 : decode mX12_moves.2.1 131 = .ok (.iaload, 1) := by decide +kernel
theorem dX12_moves_132 : decode mX12_moves.2.1 132 = .ok (.invokevirtual 270, 3) := by decide +kernel
theorem dX12_moves_135 : decode mX12_moves.2.1 135 = .ok (.istore 6, 2) := by decide +kernel
theorem dX12_moves_137 : decode mX12_moves.2.1 137 = .ok (.aload_n 0, 1) := by decide +kernel
theorem dX12_moves_138 : decode mX12_moves.2.1 138 = .ok (.getfield 85, 3) := by decide +kernel
theorem dX12_moves_141 : decode mX12_moves.2.1 141 = .ok (.aload_n 0, 1) := by decide +kernel
theorem dX12_moves_142 : decode mX12_moves.2.1 142 = .ok (.getfield 7, 3) := by decide +kernel
theorem dX12_moves_145 : decode mX12_moves.2.1 145 = .ok (.sipush 960, 3) := by decide +kernel
theorem dX12_moves_148 : decode mX12_moves.2.1 148 = .ok (.iload_n 1, 1) := by decide +kernel
theorem dX12_moves_149 : decode mX12_moves.2.1 149 = .ok (.iadd, 1) := by decide +kernel
theorem dX12_moves_150 : decode mX12_moves.2.1 150 = .ok (.iaload, 1) := by decide +kernel
theorem dX12_moves_151 : decode mX12_moves.2.1 151 = .ok (.laload, 1) := by decide +kernel
theorem dX12_moves_152 : decode mX12_moves.2.1 152 = .ok (.ldc2_w 252, 3) := by decide +kernel
theorem dX12_moves_155 : decode mX12_moves.2.1 155 = .ok (.lcmp, 1) := by decide +kernel
theorem dX12_moves_156 : decode mX12_moves.2.1 156 = .ok (.ifCond .ne 26, 3) := by decide +kernel
theorem dX12_moves_159 : decode mX12_moves.2.1 159 = .ok (.aload_n 0, 1) := by decide +kernel
theorem dX12_moves_160 : decode mX12_moves.2.1 160 = .ok (.iload_n 1, 1) := by decide +kernel
theorem dX12_moves_161 : decode mX12_moves.2.1 161 = .ok (.invokevirtual 289, 3) := by decide +kernel
theorem dX12_moves_164 : decode mX12_moves.2.1 164 = .ok (.iload_n 2, 1) := by decide +kernel
theorem dX12_moves_165 : decode mX12_moves.2.1 165 = .ok (.ifCond .ne 56, 3) := by decide +kernel
theorem dX12_moves_168 : decode mX12_moves.2.1 168 = .ok (.aload_n 0, 1) := by decide +kernel
theorem dX12_moves_169 : decode mX12_moves.2.1 169 = .ok (.getfield 7, 3) := by decide +kernel
theorem dX12_moves_172 : decode mX12_moves.2.1 172 = .ok (.sipush 976, 3) := by decide +kernel
theorem dX12_moves_175 : decode mX12_moves.2.1 175 = .ok (.iload_n 1, 1) := by decide +kernel
theorem dX12_moves_176 : decode mX12_moves.2.1 176 = .ok (.iadd, 1) := by decide +kernel
theorem dX12_moves_177 : decode mX12_moves.2.1 177 = .ok (.iconst 0, 1) := by decide +kernel
theorem dX12_moves_178 : decode mX12_moves.2.1 178 = .ok (.iastore, 1) := by decide +kernel
theorem dX12_moves_179 : decode mX12_moves.2.1 179 = .ok (.goto 42, 3) := by decide +kernel
theorem dX12_moves_182 : decode mX12_moves.2.1 182 = .ok (.aload_n 0, 1) := by decide +kernel
theorem dX12_moves_183 : decode mX12_moves.2.1 183 = .ok (.getfield 7, 3) := by decide +kernel
theorem dX12_moves_186 : decode mX12_moves.2.1 186 = .ok (.sipush 968, 3) := by decide +kernel
theorem dX12_moves_189 : decode mX12_moves.2.1 189 = .ok (.iload_n 1, 1) := by decide +kernel
theorem dX12_moves_190 : decode mX12_moves.2.1 190 = .ok (.iadd, 1) := by decide +kernel
theorem dX12_moves_191 : decode mX12_moves.2.1 191 = .ok (.iaload, 1) := by decide +kernel
theorem dX12_moves_192 : decode mX12_moves.2.1 192 = .ok (.ifCond .ne 22, 3) := by decide +kernel
theorem dX12_moves_195 : decode mX12_moves.2.1 195 = .ok (.aload_n 0, 1) := by decide +kernel
theorem dX12_moves_196 : decode mX12_moves.2.1 196 = .ok (.iload_n 1, 1) := by decide +kernel
theorem dX12_moves_197 : decode mX12_moves.2.1 197 = .ok (.invokevirtual 289, 3) := by decide +kernel
theorem dX12_moves_200 : decode mX12_moves.2.1 200 = .ok (.aload_n 0, 1) := by decide +kernel
theorem dX12_moves_201 : decode mX12_moves.2.1 201 = .ok (.getfield 7, 3) := by decide +kernel
theorem dX12_moves_204 : decode mX12_moves.2.1 204 = .ok (.sipush 976, 3) := by decide +kernel
theorem dX12_moves_207 : decode mX12_moves.2.1 207 = .ok (.iload_n 1, 1) := by decide +kernel
theorem dX12_moves_208 : decode mX12_moves.2.1 208 = .ok (.iadd, 1) := by decide +kernel
theorem dX12_moves_209 : decode mX12_moves.2.1 209 = .ok (.iconst 5, 1) := by decide +kernel
theorem dX12_moves_210 : decode mX12_moves.2.1 210 = .ok (.iastore, 1) := by decide +kernel
theorem dX12_moves_211 : decode mX12_moves.2.1 211 = .ok (.goto 10, 3) := by decide +kernel
theorem dX12_moves_214 : decode mX12_moves.2.1 214 = .ok (.aload_n 0, 1) := by decide +kernel
theorem dX12_moves_215 : decode mX12_moves.2.1 215 = .ok (.iload_n 1, 1) := by decide +kernel
theorem dX12_moves_216 : decode mX12_moves.2.1 216 = .ok (.iload 6, 2) := by decide +kernel
theorem dX12_moves_218 : decode mX12_moves.2.1 218 = .ok (.invokevirtual 292, 3) := by decide +kernel
theorem dX12_moves_221 : decode mX12_moves.2.1 221 = .ok (.return_, 1) := by decide +kernel
theorem dX12_acts_0 : decode mX12_acts.2.1 0 = .ok (.aload_n 0, 1) := by decide +kernel
theorem dX12_acts_1 : decode mX12_acts.2.1 1 = .ok (.getfield 7, 3) := by decide +kernel
theorem dX12_acts_4 : decode mX12_acts.2.1 4 = .ok (.sipush 976, 3) := by decide +kernel
theorem dX12_acts_7 : decode mX12_acts.2.1 7 = .ok (.iload_n 1, 1) := by decide +kernel
theorem dX12_acts_8 : decode mX12_acts.2.1 8 = .ok (.iadd, 1) := by decide +kernel
theorem dX12_acts_9 : decode mX12_acts.2.1 9 = .ok (.iaload, 1) := by decide +kernel
theorem dX12_acts_10 : decode mX12_acts.2.1 10 = .ok (.iconst 3, 1) := by decide +kernel
theorem dX12_acts_11 : decode mX12_acts.2.1 11 = .ok (.if_icmp .ne 9, 3) := by decide +kernel
theorem dX12_acts_14 : decode mX12_acts.2.1 14 = .ok (.aload_n 0, 1) := by decide +kernel
theorem dX12_acts_15 : decode mX12_acts.2.1 15 = .ok (.iload_n 1, 1) := by decide +kernel
theorem dX12_acts_16 : decode mX12_acts.2.1 16 = .ok (.invokevirtual 284, 3) := by decide +kernel
theorem dX12_acts_19 : decode mX12_acts.2.1 19 = .ok (.return_, 1) := by decide +kernel
theorem dX12_acts_20 : decode mX12_acts.2.1 20 = .ok (.aload_n 0, 1) := by decide +kernel
theorem dX12_acts_21 : decode mX12_acts.2.1 21 = .ok (.getfield 7, 3) := by decide +kernel
theorem dX12_acts_24 : decode mX12_acts.2.1 24 = .ok (.sipush 976, 3) := by decide +kernel
theorem dX12_acts_27 : decode mX12_acts.2.1 27 = .ok (.iload_n 1, 1) := by decide +kernel
theorem dX12_acts_28 : decode mX12_acts.2.1 28 = .ok (.iadd, 1) := by decide +kernel
theorem dX12_acts_29 : decode mX12_acts.2.1 29 = .ok (.iaload, 1) := by decide +kernel
theorem dX12_acts_30 : decode mX12_acts.2.1 30 = .ok (.ifCond .ne 35, 3) := by decide +kernel
theorem dX12_acts_33 : decode mX12_acts.2.1 33 = .ok (.iconst 4, 1) := by decide +kernel
theorem dX12_acts_34 : decode mX12_acts.2.1 34 = .ok (.aload_n 0, 1) := by decide +kernel
theorem dX12_acts_35 : decode mX12_acts.2.1 35 = .ok (.getfield 7, 3) := by decide +kernel
theorem dX12_acts_38 : decode mX12_acts.2.1 38 = .ok (.sipush 968, 3) := by decide +kernel
theorem dX12_acts_41 : decode mX12_acts.2.1 41 = .ok (.iload_n 1, 1) := by decide +kernel
theorem dX12_acts_42 : decode mX12_acts.2.1 42 = .ok (.iadd, 1) := by decide +kernel
theorem dX12_acts_43 : decode mX12_acts.2.1 43 = .ok (.iaload, 1) := by decide +kernel
theorem dX12_acts_44 : decode mX12_acts.2.1 44 = .ok (.imul, 1) := by decide +kernel
theorem dX12_acts_45 : decode mX12_acts.2.1 45 = .ok (.aload_n 0, 1) := by decide +kernel
theorem dX12_acts_46 : decode mX12_acts.2.1 46 = .ok (.getfield 52, 3) := by decide +kernel
theorem dX12_acts_49 : decode mX12_acts.2.1 49 = .ok (.iload_n 1, 1) := by decide +kernel
theorem dX12_acts_50 : decode mX12_acts.2.1 50 = .ok (.iaload, 1) := by decide +kernel
theorem dX12_acts_51 : decode mX12_acts.2.1 51 = .ok (.if_icmp .ge 14, 3) := by decide +kernel
theorem dX12_acts_54 : decode mX12_acts.2.1 54 = .ok (.aload_n 0, 1) := by decide +kernel
theorem dX12_acts_55 : decode mX12_acts.2.1 55 = .ok (.getfield 7, 3) := by decide +kernel
theorem dX12_acts_58 : decode mX12_acts.2.1 58 = .ok (.sipush 976, 3) := by decide +kernel
theorem dX12_acts_61 : decode mX12_acts.2.1 61 = .ok (.iload_n 1, 1) := by decide +kernel
theorem dX12_acts_62 : decode mX12_acts.2.1 62 = .ok (.iadd, 1) := by decide +kernel
theorem dX12_acts_63 : decode mX12_acts.2.1 63 = .ok (.iconst 2, 1) := by decide +kernel
theorem dX12_acts_64 : decode mX12_acts.2.1 64 = .ok (.iastore, 1) := by decide +kernel
theorem dX12_acts_65 : decode mX12_acts.2.1 65 = .ok (.aload_n 0, 1) := by decide +kernel
theorem dX12_acts_66 : decode mX12_acts.2.1 66 = .ok (.getfield 7, 3) := by decide +kernel
theorem dX12_acts_69 : decode mX12_acts.2.1 69 = .ok (.sipush 976, 3) := by decide +kernel
theorem dX12_acts_72 : decode mX12_acts.2.1 72 = .ok (.iload_n 1, 1) := by decide +kernel
theorem dX12_acts_73 : decode mX12_acts.2.1 73 = .ok (.iadd, 1) := by decide +kernel
theorem dX12_acts_74 : decode mX12_acts.2.1 74 = .ok (.iaload, 1) := by decide +kernel
theorem dX12_acts_75 : decode mX12_acts.2.1 75 = .ok (.iconst 1, 1) := by decide +kernel
theorem dX12_acts_76 : decode mX12_acts.2.1 76 = .ok (.if_icmp .eq 17, 3) := by decide +kernel
theorem dX12_acts_79 : decode mX12_acts.2.1 79 = .ok (.aload_n 0, 1) := by decide +kernel
theorem dX12_acts_80 : decode mX12_acts.2.1 80 = .ok (.getfield 7, 3) := by decide +kernel
theorem dX12_acts_83 : decode mX12_acts.2.1 83 = .ok (.sipush 976, 3) := by decide +kernel
theorem dX12_acts_86 : decode mX12_acts.2.1 86 = .ok (.iload_n 1, 1) := by decide +kernel
theorem dX12_acts_87 : decode mX12_acts.2.1 87 = .ok (.iadd, 1) := by decide +kernel
theorem dX12_acts_88 : decode mX12_acts.2.1 88 = .ok (.iaload, 1) := by decide +kernel
theorem dX12_acts_89 : decode mX12_acts.2.1 89 = .ok (.iconst 2, 1) := by decide +kernel
theorem dX12_acts_90 : decode mX12_acts.2.1 90 = .ok (.if_icmp .ne 8, 3) := by decide +kernel
theorem dX12_acts_93 : decode mX12_acts.2.1 93 = .ok (.aload_n 0, 1) := by decide +kernel
theorem dX12_acts_94 : decode mX12_acts.2.1 94 = .ok (.iload_n 1, 1) := by decide +kernel
theorem dX12_acts_95 : decode mX12_acts.2.1 95 = .ok (.invokevirtual 295, 3) := by decide +kernel
theorem dX12_acts_98 : decode mX12_acts.2.1 98 = .ok (.return_, 1) := by decide +kernel
theorem dX12_hour_0 : decode mX12_hour.2.1 0 = .ok (.aload_n 0, 1) := by decide +kernel
theorem dX12_hour_1 : decode mX12_hour.2.1 1 = .ok (.getfield 7, 3) := by decide +kernel
theorem dX12_hour_4 : decode mX12_hour.2.1 4 = .ok (.sipush 1624, 3) := by decide +kernel
theorem dX12_hour_7 : decode mX12_hour.2.1 7 = .ok (.dup2, 1) := by decide +kernel
theorem dX12_hour_8 : decode mX12_hour.2.1 8 = .ok (.iaload, 1) := by decide +kernel
theorem dX12_hour_9 : decode mX12_hour.2.1 9 = .ok (.iconst 1, 1) := by decide +kernel
theorem dX12_hour_10 : decode mX12_hour.2.1 10 = .ok (.iadd, 1) := by decide +kernel
theorem dX12_hour_11 : decode mX12_hour.2.1 11 = .ok (.iastore, 1) := by decide +kernel
theorem dX12_hour_12 : decode mX12_hour.2.1 12 = .ok (.aload_n 0, 1) := by decide +kernel
theorem dX12_hour_13 : decode mX12_hour.2.1 13 = .ok (.invokevirtual 302, 3) := by decide +kernel
theorem dX12_hour_16 : decode mX12_hour.2.1 16 = .ok (.aload_n 0, 1) := by decide +kernel
theorem dX12_hour_17 : decode mX12_hour.2.1 17 = .ok (.invokevirtual 304, 3) := by decide +kernel
theorem dX12_hour_20 : decode mX12_hour.2.1 20 = .ok (.aload_n 0, 1) := by decide +kernel
theorem dX12_hour_21 : decode mX12_hour.2.1 21 = .ok (.invokevirtual 307, 3) := by decide +kernel
theorem dX12_hour_24 : decode mX12_hour.2.1 24 = .ok (.aload_n 0, 1) := by decide +kernel
theorem dX12_hour_25 : decode mX12_hour.2.1 25 = .ok (.invokevirtual 310, 3) := by decide +kernel
theorem dX12_hour_28 : decode mX12_hour.2.1 28 = .ok (.iconst 0, 1) := by decide +kernel
theorem dX12_hour_29 : decode mX12_hour.2.1 29 = .ok (.istore_n 1, 1) := by decide +kernel
theorem dX12_hour_30 : decode mX12_hour.2.1 30 = .ok (.iload_n 1, 1) := by decide +kernel
theorem dX12_hour_31 : decode mX12_hour.2.1 31 = .ok (.aload_n 0, 1) := by decide +kernel
theorem dX12_hour_32 : decode mX12_hour.2.1 32 = .ok (.getfield 7, 3) := by decide +kernel
theorem dX12_hour_35 : decode mX12_hour.2.1 35 = .ok (.sipush 1631, 3) := by decide +kernel
theorem dX12_hour_38 : decode mX12_hour.2.1 38 = .ok (.iaload, 1) := by decide +kernel
theorem dX12_hour_39 : decode mX12_hour.2.1 39 = .ok (.if_icmp .ge 23, 3) := by decide +kernel
theorem dX12_hour_42 : decode mX12_hour.2.1 42 = .ok (.aload_n 0, 1) := by decide +kernel
theorem dX12_hour_43 : decode mX12_hour.2.1 43 = .ok (.iconst 1, 1) := by decide +kernel
theorem dX12_hour_44 : decode mX12_hour.2.1 44 = .ok (.iload_n 1, 1) := by decide +kernel
theorem dX12_hour_45 : decode mX12_hour.2.1 45 = .ok (.invokevirtual 188, 3) := by decide +kernel
theorem dX12_hour_48 : decode mX12_hour.2.1 48 = .ok (.ifCond .ne 8, 3) := by decide +kernel
theorem dX12_hour_51 : decode mX12_hour.2.1 51 = .ok (.aload_n 0, 1) := by decide +kernel
theorem dX12_hour_52 : decode mX12_hour.2.1 52 = .ok (.iload_n 1, 1) := by decide +kernel
theorem dX12_hour_53 : decode mX12_hour.2.1 53 = .ok (.invokevirtual 313, 3) := by decide +kernel
theorem dX12_hour_56 : decode mX12_hour.2.1 56 = .ok (.iinc 1 1, 3) := by decide +kernel
theorem dX12_hour_59 : decode mX12_hour.2.1 59 = .ok (.goto (-29), 3) := by decide +kernel
theorem dX12_hour_62 : decode mX12_hour.2.1 62 = .ok (.aload_n 0, 1) := by decide +kernel
theorem dX12_hour_63 : decode mX12_hour.2.1 63 = .ok (.getfield 7, 3) := by decide +kernel
theorem dX12_hour_66 : decode mX12_hour.2.1 66 = .ok (.sipush 1624, 3) := by decide +kernel
theorem dX12_hour_69 : decode mX12_hour.2.1 69 = .ok (.iaload, 1) := by decide +kernel
theorem dX12_hour_70 : decode mX12_hour.2.1 70 = .ok (.bipush 24, 2) := by decide +kernel
theorem dX12_hour_72 : decode mX12_hour.2.1 72 = .ok (.irem, 1) := by decide +kernel
theorem dX12_hour_73 : decode mX12_hour.2.1 73 = .ok (.ifCond .ne 7, 3) := by decide +kernel
theorem dX12_hour_76 : decode mX12_hour.2.1 76 = .ok (.aload_n 0, 1) := by decide +kernel
theorem dX12_hour_77 : decode mX12_hour.2.1 77 = .ok (.invokevirtual 316, 3) := by decide +kernel
theorem dX12_hour_80 : decode mX12_hour.2.1 80 = .ok (.return_, 1) := by decide +kernel
theorem dX12_pass_0 : decode mX12_pass.2.1 0 = .ok (.iload_n 1, 1) := by decide +kernel
theorem dX12_pass_1 : decode mX12_pass.2.1 1 = .ok (.iconst 1, 1) := by decide +kernel
theorem dX12_pass_2 : decode mX12_pass.2.1 2 = .ok (.sipush 200, 3) := by decide +kernel
theorem dX12_pass_5 : decode mX12_pass.2.1 5 = .ok (.invokestatic 162, 3) := by decide +kernel
theorem dX12_pass_8 : decode mX12_pass.2.1 8 = .ok (.ifCond .eq 19, 3) := by decide +kernel
theorem dX12_pass_11 : decode mX12_pass.2.1 11 = .ok (.aload_n 0, 1) := by decide +kernel
theorem dX12_pass_12 : decode mX12_pass.2.1 12 = .ok (.getfield 7, 3) := by decide +kernel
theorem dX12_pass_15 : decode mX12_pass.2.1 15 = .ok (.sipush 1624, 3) := by decide +kernel
theorem dX12_pass_18 : decode mX12_pass.2.1 18 = .ok (.iaload, 1) := by decide +kernel
theorem dX12_pass_19 : decode mX12_pass.2.1 19 = .ok (.sipush 719, 3) := by decide +kernel
theorem dX12_pass_22 : decode mX12_pass.2.1 22 = .ok (.iload_n 1, 1) := by decide +kernel
theorem dX12_pass_23 : decode mX12_pass.2.1 23 = .ok (.isub, 1) := by decide +kernel
theorem dX12_pass_24 : decode mX12_pass.2.1 24 = .ok (.if_icmp .le 5, 3) := by decide +kernel
theorem dX12_pass_27 : decode mX12_pass.2.1 27 = .ok (.iconst (-1), 1) := by decide +kernel
theorem dX12_pass_28 : decode mX12_pass.2.1 28 = .ok (.ireturn, 1) := by decide +kernel
theorem dX12_pass_29 : decode mX12_pass.2.1 29 = .ok (.iconst 0, 1) := by decide +kernel
theorem dX12_pass_30 : decode mX12_pass.2.1 30 = .ok (.istore_n 2, 1) := by decide +kernel
theorem dX12_pass_31 : decode mX12_pass.2.1 31 = .ok (.iload_n 2, 1) := by decide +kernel
theorem dX12_pass_32 : decode mX12_pass.2.1 32 = .ok (.iload_n 1, 1) := by decide +kernel
theorem dX12_pass_33 : decode mX12_pass.2.1 33 = .ok (.if_icmp .ge 13, 3) := by decide +kernel
theorem dX12_pass_36 : decode mX12_pass.2.1 36 = .ok (.aload_n 0, 1) := by decide +kernel
theorem dX12_pass_37 : decode mX12_pass.2.1 37 = .ok (.invokevirtual 319, 3) := by decide +kernel
theorem dX12_pass_40 : decode mX12_pass.2.1 40 = .ok (.iinc 2 1, 3) := by decide +kernel
theorem dX12_pass_43 : decode mX12_pass.2.1 43 = .ok (.goto (-12), 3) := by decide +kernel
theorem dX12_pass_46 : decode mX12_pass.2.1 46 = .ok (.aload_n 0, 1) := by decide +kernel
theorem dX12_pass_47 : decode mX12_pass.2.1 47 = .ok (.getfield 7, 3) := by decide +kernel
theorem dX12_pass_50 : decode mX12_pass.2.1 50 = .ok (.sipush 1624, 3) := by decide +kernel
theorem dX12_pass_53 : decode mX12_pass.2.1 53 = .ok (.iaload, 1) := by decide +kernel
theorem dX12_pass_54 : decode mX12_pass.2.1 54 = .ok (.ireturn, 1) := by decide +kernel
theorem dX12_again_0 : decode mX12_again.2.1 0 = .ok (.iload_n 1, 1) := by decide +kernel
theorem dX12_again_1 : decode mX12_again.2.1 1 = .ok (.ifCond .ne 10, 3) := by decide +kernel
theorem dX12_again_4 : decode mX12_again.2.1 4 = .ok (.aload_n 0, 1) := by decide +kernel
theorem dX12_again_5 : decode mX12_again.2.1 5 = .ok (.getfield 210, 3) := by decide +kernel
theorem dX12_again_8 : decode mX12_again.2.1 8 = .ok (.goto 28, 3) := by decide +kernel
theorem dX12_again_11 : decode mX12_again.2.1 11 = .ok (.iload_n 1, 1) := by decide +kernel
theorem dX12_again_12 : decode mX12_again.2.1 12 = .ok (.iconst 1, 1) := by decide +kernel
theorem dX12_again_13 : decode mX12_again.2.1 13 = .ok (.if_icmp .ne 10, 3) := by decide +kernel
theorem dX12_again_16 : decode mX12_again.2.1 16 = .ok (.aload_n 0, 1) := by decide +kernel
theorem dX12_again_17 : decode mX12_again.2.1 17 = .ok (.getfield 213, 3) := by decide +kernel
theorem dX12_again_20 : decode mX12_again.2.1 20 = .ok (.goto 16, 3) := by decide +kernel
theorem dX12_again_23 : decode mX12_again.2.1 23 = .ok (.iload_n 1, 1) := by decide +kernel
theorem dX12_again_24 : decode mX12_again.2.1 24 = .ok (.iconst 2, 1) := by decide +kernel
theorem dX12_again_25 : decode mX12_again.2.1 25 = .ok (.if_icmp .ne 10, 3) := by decide +kernel
theorem dX12_again_28 : decode mX12_again.2.1 28 = .ok (.aload_n 0, 1) := by decide +kernel
theorem dX12_again_29 : decode mX12_again.2.1 29 = .ok (.getfield 219, 3) := by decide +kernel
theorem dX12_again_32 : decode mX12_again.2.1 32 = .ok (.goto 4, 3) := by decide +kernel
theorem dX12_again_35 : decode mX12_again.2.1 35 = .ok (.iconst 0, 1) := by decide +kernel
theorem dX12_again_36 : decode mX12_again.2.1 36 = .ok (.istore 5, 2) := by decide +kernel
theorem dX12_again_38 : decode mX12_again.2.1 38 = .ok (.iload_n 2, 1) := by decide +kernel
theorem dX12_again_39 : decode mX12_again.2.1 39 = .ok (.iconst 0, 1) := by decide +kernel
theorem dX12_again_40 : decode mX12_again.2.1 40 = .ok (.iload 5, 2) := by decide +kernel
theorem dX12_again_42 : decode mX12_again.2.1 42 = .ok (.iconst 1, 1) := by decide +kernel
theorem dX12_again_43 : decode mX12_again.2.1 43 = .ok (.isub, 1) := by decide +kernel
theorem dX12_again_44 : decode mX12_again.2.1 44 = .ok (.invokestatic 162, 3) := by decide +kernel
theorem dX12_again_47 : decode mX12_again.2.1 47 = .ok (.ifCond .eq 21, 3) := by decide +kernel
theorem dX12_again_50 : decode mX12_again.2.1 50 = .ok (.iload_n 3, 1) := by decide +kernel
theorem dX12_again_51 : decode mX12_again.2.1 51 = .ok (.invokestatic 199, 3) := by decide +kernel
theorem dX12_again_54 : decode mX12_again.2.1 54 = .ok (.ifCond .eq 14, 3) := by decide +kernel
theorem dX12_again_57 : decode mX12_again.2.1 57 = .ok (.iload 4, 2) := by decide +kernel
theorem dX12_again_59 : decode mX12_again.2.1 59 = .ok (.iconst 0, 1) := by decide +kernel
theorem dX12_again_60 : decode mX12_again.2.1 60 = .ok (.bipush 10, 2) := by decide +kernel
theorem dX12_again_62 : decode mX12_again.2.1 62 = .ok (.invokestatic 162, 3) := by decide +kernel
theorem dX12_again_65 : decode mX12_again.2.1 65 = .ok (.ifCond .ne 5, 3) := by decide +kernel
theorem dX12_again_68 : decode mX12_again.2.1 68 = .ok (.iconst (-1), 1) := by decide +kernel
theorem dX12_again_69 : decode mX12_again.2.1 69 = .ok (.ireturn, 1) := by decide +kernel
theorem dX12_again_70 : decode mX12_again.2.1 70 = .ok (.iconst 0, 1) := by decide +kernel
theorem dX12_again_71 : decode mX12_again.2.1 71 = .ok (.istore 6, 2) := by decide +kernel
theorem dX12_again_73 : decode mX12_again.2.1 73 = .ok (.iload 6, 2) := by decide +kernel
theorem dX12_again_75 : decode mX12_again.2.1 75 = .ok (.sipush 1635, 3) := by decide +kernel
theorem dX12_again_78 : decode mX12_again.2.1 78 = .ok (.if_icmp .ge 23, 3) := by decide +kernel
theorem dX12_again_81 : decode mX12_again.2.1 81 = .ok (.aload_n 0, 1) := by decide +kernel
theorem dX12_again_82 : decode mX12_again.2.1 82 = .ok (.getfield 13, 3) := by decide +kernel
theorem dX12_again_85 : decode mX12_again.2.1 85 = .ok (.iload 6, 2) := by decide +kernel
theorem dX12_again_87 : decode mX12_again.2.1 87 = .ok (.aload_n 0, 1) := by decide +kernel
theorem dX12_again_88 : decode mX12_again.2.1 88 = .ok (.getfield 7, 3) := by decide +kernel
theorem dX12_again_91 : decode mX12_again.2.1 91 = .ok (.iload 6, 2) := by decide +kernel
theorem dX12_again_93 : decode mX12_again.2.1 93 = .ok (.iaload, 1) := by decide +kernel
theorem dX12_again_94 : decode mX12_again.2.1 94 = .ok (.iastore, 1) := by decide +kernel
theorem dX12_again_95 : decode mX12_again.2.1 95 = .ok (.iinc 6 1, 3) := by decide +kernel
theorem dX12_again_98 : decode mX12_again.2.1 98 = .ok (.goto (-25), 3) := by decide +kernel
theorem dX12_again_101 : decode mX12_again.2.1 101 = .ok (.aload_n 0, 1) := by decide +kernel
theorem dX12_again_102 : decode mX12_again.2.1 102 = .ok (.getfield 155, 3) := by decide +kernel
theorem dX12_again_105 : decode mX12_again.2.1 105 = .ok (.lstore 6, 2) := by decide +kernel
theorem dX12_again_107 : decode mX12_again.2.1 107 = .ok (.aload_n 0, 1) := by decide +kernel
theorem dX12_again_108 : decode mX12_again.2.1 108 = .ok (.getfield 159, 3) := by decide +kernel
theorem dX12_again_111 : decode mX12_again.2.1 111 = .ok (.lstore 8, 2) := by decide +kernel
theorem dX12_again_113 : decode mX12_again.2.1 113 = .ok (.aload_n 0, 1) := by decide +kernel
theorem dX12_again_114 : decode mX12_again.2.1 114 = .ok (.iload_n 1, 1) := by decide +kernel
theorem dX12_again_115 : decode mX12_again.2.1 115 = .ok (.putfield 77, 3) := by decide +kernel
theorem dX12_again_118 : decode mX12_again.2.1 118 = .ok (.aload_n 0, 1) := by decide +kernel
theorem dX12_again_119 : decode mX12_again.2.1 119 = .ok (.iload_n 2, 1) := by decide +kernel
theorem dX12_again_120 : decode mX12_again.2.1 120 = .ok (.putfield 172, 3) := by decide +kernel
theorem dX12_again_123 : decode mX12_again.2.1 123 = .ok (.aload_n 0, 1) := by decide +kernel
theorem dX12_again_124 : decode mX12_again.2.1 124 = .ok (.invokevirtual 152, 3) := by decide +kernel
theorem dX12_again_127 : decode mX12_again.2.1 127 = .ok (.iconst 0, 1) := by decide +kernel
theorem dX12_again_128 : decode mX12_again.2.1 128 = .ok (.istore 10, 2) := by decide +kernel
theorem dX12_again_130 : decode mX12_again.2.1 130 = .ok (.iconst 0, 1) := by decide +kernel
theorem dX12_again_131 : decode mX12_again.2.1 131 = .ok (.istore 11, 2) := by decide +kernel
theorem dX12_again_133 : decode mX12_again.2.1 133 = .ok (.iload 11, 2) := by decide +kernel
theorem dX12_again_135 : decode mX12_again.2.1 135 = .ok (.aload_n 0, 1) := by decide +kernel
theorem dX12_again_136 : decode mX12_again.2.1 136 = .ok (.getfield 13, 3) := by decide +kernel
theorem dX12_again_139 : decode mX12_again.2.1 139 = .ok (.sipush 1624, 3) := by decide +kernel
theorem dX12_again_142 : decode mX12_again.2.1 142 = .ok (.iaload, 1) := by decide +kernel
theorem dX12_again_143 : decode mX12_again.2.1 143 = .ok (.if_icmp .gt 51, 3) := by decide +kernel
theorem dX12_again_146 : decode mX12_again.2.1 146 = .ok (.iload 11, 2) := by decide +kernel
theorem dX12_again_148 : decode mX12_again.2.1 148 = .ok (.ifCond .le 7, 3) := by decide +kernel
theorem dX12_again_151 : decode mX12_again.2.1 151 = .ok (.aload_n 0, 1) := by decide +kernel
theorem dX12_again_152 : decode mX12_again.2.1 152 = .ok (.invokevirtual 319, 3) := by decide +kernel
theorem dX12_again_155 : decode mX12_again.2.1 155 = .ok (.iload 10, 2) := by decide +kernel
theorem dX12_again_157 : decode mX12_again.2.1 157 = .ok (.aload_n 0, 1) := by decide +kernel
theorem dX12_again_158 : decode mX12_again.2.1 158 = .ok (.getfield 175, 3) := by decide +kernel
theorem dX12_again_161 : decode mX12_again.2.1 161 = .ok (.if_icmp .ge 27, 3) := by decide +kernel
theorem dX12_again_164 : decode mX12_again.2.1 164 = .ok (.aload_n 0, 1) := by decide +kernel
theorem dX12_again_165 : decode mX12_again.2.1 165 = .ok (.getfield 19, 3) := by decide +kernel
theorem dX12_again_168 : decode mX12_again.2.1 168 = .ok (.iload 10, 2) := by decide +kernel
theorem dX12_again_170 : decode mX12_again.2.1 170 = .ok (.iaload, 1) := by decide +kernel
theorem dX12_again_171 : decode mX12_again.2.1 171 = .ok (.iload 11, 2) := by decide +kernel
theorem dX12_again_173 : decode mX12_again.2.1 173 = .ok (.if_icmp .ne 15, 3) := by decide +kernel
theorem dX12_again_176 : decode mX12_again.2.1 176 = .ok (.aload_n 0, 1) := by decide +kernel
theorem dX12_again_177 : decode mX12_again.2.1 177 = .ok (.iload 10, 2) := by decide +kernel
theorem dX12_again_179 : decode mX12_again.2.1 179 = .ok (.invokevirtual 178, 3) := by decide +kernel
theorem dX12_again_182 : decode mX12_again.2.1 182 = .ok (.iinc 10 1, 3) := by decide +kernel
theorem dX12_again_185 : decode mX12_again.2.1 185 = .ok (.goto (-30), 3) := by decide +kernel
theorem dX12_again_188 : decode mX12_again.2.1 188 = .ok (.iinc 11 1, 3) := by decide +kernel
theorem dX12_again_191 : decode mX12_again.2.1 191 = .ok (.goto (-58), 3) := by decide +kernel
theorem dX12_again_194 : decode mX12_again.2.1 194 = .ok (.aload_n 0, 1) := by decide +kernel
theorem dX12_again_195 : decode mX12_again.2.1 195 = .ok (.iload_n 3, 1) := by decide +kernel
theorem dX12_again_196 : decode mX12_again.2.1 196 = .ok (.iload 4, 2) := by decide +kernel
theorem dX12_again_198 : decode mX12_again.2.1 198 = .ok (.invokevirtual 325, 3) := by decide +kernel
theorem dX12_again_201 : decode mX12_again.2.1 201 = .ok (.istore 11, 2) := by decide +kernel
theorem dX12_again_203 : decode mX12_again.2.1 203 = .ok (.aload_n 0, 1) := by decide +kernel
theorem dX12_again_204 : decode mX12_again.2.1 204 = .ok (.iconst (-1), 1) := by decide +kernel
theorem dX12_again_205 : decode mX12_again.2.1 205 = .ok (.putfield 77, 3) := by decide +kernel
theorem dX12_again_208 : decode mX12_again.2.1 208 = .ok (.iconst 0, 1) := by decide +kernel
theorem dX12_again_209 : decode mX12_again.2.1 209 = .ok (.istore 12, 2) := by decide +kernel
theorem dX12_again_211 : decode mX12_again.2.1 211 = .ok (.iload 12, 2) := by decide +kernel
theorem dX12_again_213 : decode mX12_again.2.1 213 = .ok (.sipush 1635, 3) := by decide +kernel
theorem dX12_again_216 : decode mX12_again.2.1 216 = .ok (.if_icmp .ge 23, 3) := by decide +kernel
theorem dX12_again_219 : decode mX12_again.2.1 219 = .ok (.aload_n 0, 1) := by decide +kernel
theorem dX12_again_220 : decode mX12_again.2.1 220 = .ok (.getfield 7, 3) := by decide +kernel
theorem dX12_again_223 : decode mX12_again.2.1 223 = .ok (.iload 12, 2) := by decide +kernel
theorem dX12_again_225 : decode mX12_again.2.1 225 = .ok (.aload_n 0, 1) := by decide +kernel
theorem dX12_again_226 : decode mX12_again.2.1 226 = .ok (.getfield 13, 3) := by decide +kernel
theorem dX12_again_229 : decode mX12_again.2.1 229 = .ok (.iload 12, 2) := by decide +kernel
theorem dX12_again_231 : decode mX12_again.2.1 231 = .ok (.iaload, 1) := by decide +kernel
theorem dX12_again_232 : decode mX12_again.2.1 232 = .ok (.iastore, 1) := by decide +kernel
theorem dX12_again_233 : decode mX12_again.2.1 233 = .ok (.iinc 12 1, 3) := by decide +kernel
theorem dX12_again_236 : decode mX12_again.2.1 236 = .ok (.goto (-25), 3) := by decide +kernel
theorem dX12_again_239 : decode mX12_again.2.1 239 = .ok (.aload_n 0, 1) := by decide +kernel
theorem dX12_again_240 : decode mX12_again.2.1 240 = .ok (.lload 6, 2) := by decide +kernel
theorem dX12_again_242 : decode mX12_again.2.1 242 = .ok (.putfield 155, 3) := by decide +kernel
theorem dX12_again_245 : decode mX12_again.2.1 245 = .ok (.aload_n 0, 1) := by decide +kernel
theorem dX12_again_246 : decode mX12_again.2.1 246 = .ok (.lload 8, 2) := by decide +kernel
theorem dX12_again_248 : decode mX12_again.2.1 248 = .ok (.putfield 159, 3) := by decide +kernel
theorem dX12_again_251 : decode mX12_again.2.1 251 = .ok (.iload 11, 2) := by decide +kernel
theorem dX12_again_253 : decode mX12_again.2.1 253 = .ok (.ireturn, 1) := by decide +kernel
theorem dX12_plan_0 : decode mX12_plan.2.1 0 = .ok (.aload_n 0, 1) := by decide +kernel
theorem dX12_plan_1 : decode mX12_plan.2.1 1 = .ok (.iload_n 1, 1) := by decide +kernel
theorem dX12_plan_2 : decode mX12_plan.2.1 2 = .ok (.invokevirtual 495, 3) := by decide +kernel
theorem dX12_plan_5 : decode mX12_plan.2.1 5 = .ok (.istore_n 2, 1) := by decide +kernel
theorem dX12_plan_6 : decode mX12_plan.2.1 6 = .ok (.iload_n 2, 1) := by decide +kernel
theorem dX12_plan_7 : decode mX12_plan.2.1 7 = .ok (.iconst (-1), 1) := by decide +kernel
theorem dX12_plan_8 : decode mX12_plan.2.1 8 = .ok (.if_icmp .eq 13, 3) := by decide +kernel
theorem dX12_plan_11 : decode mX12_plan.2.1 11 = .ok (.aload_n 0, 1) := by decide +kernel
theorem dX12_plan_12 : decode mX12_plan.2.1 12 = .ok (.getfield 121, 3) := by decide +kernel
theorem dX12_plan_15 : decode mX12_plan.2.1 15 = .ok (.iload_n 2, 1) := by decide +kernel
theorem dX12_plan_16 : decode mX12_plan.2.1 16 = .ok (.iaload, 1) := by decide +kernel
theorem dX12_plan_17 : decode mX12_plan.2.1 17 = .ok (.iconst 2, 1) := by decide +kernel
theorem dX12_plan_18 : decode mX12_plan.2.1 18 = .ok (.if_icmp .ne 5, 3) := by decide +kernel
theorem dX12_plan_21 : decode mX12_plan.2.1 21 = .ok (.iconst (-1), 1) := by decide +kernel
theorem dX12_plan_22 : decode mX12_plan.2.1 22 = .ok (.ireturn, 1) := by decide +kernel
theorem dX12_plan_23 : decode mX12_plan.2.1 23 = .ok (.aload_n 0, 1) := by decide +kernel
theorem dX12_plan_24 : decode mX12_plan.2.1 24 = .ok (.getfield 121, 3) := by decide +kernel
theorem dX12_plan_27 : decode mX12_plan.2.1 27 = .ok (.iload_n 2, 1) := by decide +kernel
theorem dX12_plan_28 : decode mX12_plan.2.1 28 = .ok (.iaload, 1) := by decide +kernel
theorem dX12_plan_29 : decode mX12_plan.2.1 29 = .ok (.iconst 3, 1) := by decide +kernel
theorem dX12_plan_30 : decode mX12_plan.2.1 30 = .ok (.if_icmp .eq 24, 3) := by decide +kernel
theorem dX12_plan_33 : decode mX12_plan.2.1 33 = .ok (.aload_n 0, 1) := by decide +kernel
theorem dX12_plan_34 : decode mX12_plan.2.1 34 = .ok (.aload_n 0, 1) := by decide +kernel
theorem dX12_plan_35 : decode mX12_plan.2.1 35 = .ok (.getfield 121, 3) := by decide +kernel
theorem dX12_plan_38 : decode mX12_plan.2.1 38 = .ok (.iload_n 2, 1) := by decide +kernel
theorem dX12_plan_39 : decode mX12_plan.2.1 39 = .ok (.iaload, 1) := by decide +kernel
theorem dX12_plan_40 : decode mX12_plan.2.1 40 = .ok (.ifCond .ne 7, 3) := by decide +kernel
theorem dX12_plan_43 : decode mX12_plan.2.1 43 = .ok (.iconst 1, 1) := by decide +kernel
theorem dX12_plan_44 : decode mX12_plan.2.1 44 = .ok (.goto 4, 3) := by decide +kernel
theorem dX12_plan_47 : decode mX12_plan.2.1 47 = .ok (.iconst 0, 1) := by decide +kernel
theorem dX12_plan_48 : decode mX12_plan.2.1 48 = .ok (.iload_n 1, 1) := by decide +kernel
theorem dX12_plan_49 : decode mX12_plan.2.1 49 = .ok (.iconst 0, 1) := by decide +kernel
theorem dX12_plan_50 : decode mX12_plan.2.1 50 = .ok (.invokevirtual 498, 3) := by decide +kernel
theorem dX12_plan_53 : decode mX12_plan.2.1 53 = .ok (.ireturn, 1) := by decide +kernel
theorem dX12_plan_54 : decode mX12_plan.2.1 54 = .ok (.aload_n 0, 1) := by decide +kernel
theorem dX12_plan_55 : decode mX12_plan.2.1 55 = .ok (.iconst 2, 1) := by decide +kernel
theorem dX12_plan_56 : decode mX12_plan.2.1 56 = .ok (.iload_n 1, 1) := by decide +kernel
theorem dX12_plan_57 : decode mX12_plan.2.1 57 = .ok (.lconst 1, 1) := by decide +kernel
theorem dX12_plan_58 : decode mX12_plan.2.1 58 = .ok (.ldc2_w 502, 3) := by decide +kernel
theorem dX12_plan_61 : decode mX12_plan.2.1 61 = .ok (.aload_n 0, 1) := by decide +kernel
theorem dX12_plan_62 : decode mX12_plan.2.1 62 = .ok (.aload_n 0, 1) := by decide +kernel
theorem dX12_plan_63 : decode mX12_plan.2.1 63 = .ok (.getfield 124, 3) := by decide +kernel
theorem dX12_plan_66 : decode mX12_plan.2.1 66 = .ok (.iload_n 2, 1) := by decide +kernel
theorem dX12_plan_67 : decode mX12_plan.2.1 67 = .ok (.iaload, 1) := by decide +kernel
theorem dX12_plan_68 : decode mX12_plan.2.1 68 = .ok (.aload_n 0, 1) := by decide +kernel
theorem dX12_plan_69 : decode mX12_plan.2.1 69 = .ok (.getfield 127, 3) := by decide +kernel
theorem dX12_plan_72 : decode mX12_plan.2.1 72 = .ok (.iload_n 2, 1) := by decide +kernel
theorem dX12_plan_73 : decode mX12_plan.2.1 73 = .ok (.iaload, 1) := by decide +kernel
theorem dX12_plan_74 : decode mX12_plan.2.1 74 = .ok (.invokevirtual 491, 3) := by decide +kernel
theorem dX12_plan_77 : decode mX12_plan.2.1 77 = .ok (.invokestatic 262, 3) := by decide +kernel
theorem dX12_plan_80 : decode mX12_plan.2.1 80 = .ok (.invokestatic 469, 3) := by decide +kernel
theorem dX12_plan_83 : decode mX12_plan.2.1 83 = .ok (.l2i, 1) := by decide +kernel
theorem dX12_plan_84 : decode mX12_plan.2.1 84 = .ok (.invokevirtual 498, 3) := by decide +kernel
theorem dX12_plan_87 : decode mX12_plan.2.1 87 = .ok (.ireturn, 1) := by decide +kernel
def w_X12_ways_p150_b (post : am_I → am_N → Prop) (zk48 : Int32 → am_I → am_N → Prop) (zk150 : Int32 → Int32 → Int32 → am_I → am_N → Prop) (l1 : Int32) (l4 : Int32) (l5 : Int32) (M : am_I) (N : am_N) : Prop :=
  ((4 ≤ l5 → zk48 l1 M N) ∧ (¬ 4 ≤ l5 → w_X12_beside l4 l5 M N (fun zr1 zM2 zN3 => ((zr1 = (-1) → zk150 l1 l4 (l5 + 1) zM2 zN3) ∧ (¬ zr1 = (-1) → w_X12_beside l4 l5 zM2 zN3 (fun zr4 zM5 zN6 => w_X12_beside l4 l5 zM5 zN6 (fun zr7 zM8 zN9 => vp_in zr7 64 ∧ vp_in l4 64 ∧ w_X12_heavy l1 l4 zM8 zN9 (fun zr10 zM11 zN12 => w_J9_min_f86c9 (zN9 (3, 0, 24) zr7.toNatClampNeg) (((zN9 (3, 0, 24) l4.toNatClampNeg) + (1000000 * zr10.toInt64)) + 1) zM11 zN12 (fun zr13 zM14 zN15 => vp_in zr4 64 ∧ zk150 l1 l4 (l5 + 1) zM14 (am_ul zN15 (3, 0, 24) zr4.toNatClampNeg zr13))))))))))
noncomputable def w_X12_ways_p150 (post : am_I → am_N → Prop) (zk48 : Int32 → am_I → am_N → Prop) (n : Nat) : Int32 → Int32 → Int32 → am_I → am_N → Prop :=
  Nat.rec (motive := fun _ => Int32 → Int32 → Int32 → am_I → am_N → Prop) (fun _ _ _ _ _ => False) (fun _ zk => w_X12_ways_p150_b post zk48 zk) n
theorem w_X12_ways_p150_s (post : am_I → am_N → Prop) (zk48 : Int32 → am_I → am_N → Prop) (n : Nat) (l1 : Int32) (l4 : Int32) (l5 : Int32) (M : am_I) (N : am_N) : w_X12_ways_p150 post zk48 (n + 1) l1 l4 l5 M N = w_X12_ways_p150_b post zk48 (w_X12_ways_p150 post zk48 n) l1 l4 l5 M N := rfl
set_option maxRecDepth 10000 in
theorem k_X12_ways_p150 {d : Nat} {dm : List am_C} (h3 : am_d3 dm) {post : am_I → am_N → Prop} {zk48 : Int32 → am_I → am_N → Prop} (zhk48 : ∀ (l1 : Int32) (M : am_I) (N : am_N), zk48 l1 M N → jg (d + 4) mX12_ways dm 48 [(0, .inr (.inr (3, 0, 0))), (1, .inl l1)] [] M N (am_pv post)) : ∀ (n : Nat) (l1 : Int32) (l4 : Int32) (l5 : Int32) (M : am_I) (N : am_N), w_X12_ways_p150 post zk48 n l1 l4 l5 M N → jg (d + 4) mX12_ways dm 150 [(0, .inr (.inr (3, 0, 0))), (1, .inl l1), (4, .inl l4), (5, .inl l5)] [] M N (am_pv post) := by
  intro n
  induction n with
  | zero => intro l1 l4 l5 M N h; exact h.elim
  | succ n zih =>
    intro l1 l4 l5 M N h
    replace h : w_X12_ways_p150_b post zk48 (w_X12_ways_p150 post zk48 n) l1 l4 l5 M N := h
    refine j_iload 3 dX12_ways_150 rfl ?_
    refine j_iconst (v := 4) dX12_ways_152 (by decide) ?_
    refine j_icmp_ge (tgt := 222) dX12_ways_153 (by decide) (fun hc => ?_) (fun hc => ?_)
    · replace h := h.1 hc
      refine j_goto (tgt := 48) dX12_ways_222 (by decide) ?_
      refine j_sub [0, 1] rfl ?_
      exact zhk48 _ _ _ h
    · replace h := h.2 hc
      refine j_iload 2 dX12_ways_156 rfl ?_
      refine j_iload 3 dX12_ways_158 rfl ?_
      refine j_invS (As := [.inl l4, .inl l5]) dX12_ways_160 msRX12_257 mbX12_beside rfl rfl (Nat.le_of_ble_eq_true rfl) (Nat.le_of_ble_eq_true rfl) (by omega) (k_X12_beside (d := d + 2)  h) ?_
      rintro _ zM2 zN3 ⟨zr1, rfl, h⟩
      refine j_iconst (v := (-1)) dX12_ways_163 (by decide) ?_
      refine j_icmp_eq (tgt := 216) dX12_ways_164 (by decide) (fun hc => ?_) (fun hc => ?_)
      · replace h := h.1 hc
        refine j_iinc 3 dX12_ways_216 rfl rfl (by decide) rfl ?_
        refine j_goto (tgt := 150) dX12_ways_219 (by decide) ?_
        refine j_sub [1, 2, 3, 0] rfl ?_
        exact zih _ _ _ _ _ h
      · replace h := h.2 hc
        refine j_aload_n 0 dX12_ways_167 rfl ?_
        refine j_getR (b := (3, 0, 24)) dX12_ways_168 fsRX12_85 (h3 0 (by decide)) rfl rfl ?_
        refine j_iload 2 dX12_ways_171 rfl ?_
        refine j_iload 3 dX12_ways_173 rfl ?_
        refine j_invS (As := [.inl l4, .inl l5]) dX12_ways_175 msRX12_257 mbX12_beside rfl rfl (Nat.le_of_ble_eq_true rfl) (Nat.le_of_ble_eq_true rfl) (by omega) (k_X12_beside (d := d + 2)  h) ?_
        rintro _ zM5 zN6 ⟨zr4, rfl, h⟩
        refine j_aload_n 0 dX12_ways_178 rfl ?_
        refine j_getR (b := (3, 0, 24)) dX12_ways_179 fsRX12_85 (h3 0 (by decide)) rfl rfl ?_
        refine j_iload 2 dX12_ways_182 rfl ?_
        refine j_iload 3 dX12_ways_184 rfl ?_
        refine j_invS (As := [.inl l4, .inl l5]) dX12_ways_186 msRX12_257 mbX12_beside rfl rfl (Nat.le_of_ble_eq_true rfl) (Nat.le_of_ble_eq_true rfl) (by omega) (k_X12_beside (d := d + 2)  h) ?_
        rintro _ zM8 zN9 ⟨zr7, rfl, h⟩
        obtain ⟨hq, h⟩ := h
        refine j_lald dX12_ways_189 (h3 24 (by decide)) rfl hq ?_
        refine j_aload_n 0 dX12_ways_190 rfl ?_
        refine j_getR (b := (3, 0, 24)) dX12_ways_191 fsRX12_85 (h3 0 (by decide)) rfl rfl ?_
        refine j_iload 2 dX12_ways_194 rfl ?_
        obtain ⟨hq, h⟩ := h
        refine j_lald dX12_ways_196 (h3 24 (by decide)) rfl hq ?_
        refine j_ldc2 (v := 1000000) dX12_ways_197 cw_1671 ?_
        refine j_aload_n 0 dX12_ways_200 rfl ?_
        refine j_iload_n 1 dX12_ways_201 rfl ?_
        refine j_iload 2 dX12_ways_202 rfl ?_
        refine j_invV (As := [.inl l1, .inl l4]) dX12_ways_204 msRX12_241 mbX12_heavy rfl rfl (Nat.le_of_ble_eq_true rfl) (Nat.le_of_ble_eq_true rfl) (by omega) (h3 0 (by decide)) rfl rfl (k_X12_heavy (d := d + 2) h3 h) ?_
        rintro _ zM11 zN12 ⟨zr10, rfl, h⟩
        refine j_i2l dX12_ways_207 ?_
        refine j_lmul dX12_ways_208 ?_
        refine j_ladd dX12_ways_209 ?_
        refine j_lconst (v := 1) dX12_ways_210 (by decide) ?_
        refine j_ladd dX12_ways_211 ?_
        refine j_invS (As := [.inr (.inl (zN9 (3, 0, 24) zr7.toNatClampNeg)), .inr (.inl (((zN9 (3, 0, 24) l4.toNatClampNeg) + (1000000 * zr10.toInt64)) + 1))]) dX12_ways_212 msRX12_262 mbJ9_min_f86c9 rfl rfl (Nat.le_of_ble_eq_true rfl) (Nat.le_of_ble_eq_true rfl) (by omega) (k_J9_min_f86c9 (d := d + 2)  h) ?_
        rintro _ zM14 zN15 ⟨zr13, rfl, h⟩
        obtain ⟨hq, h⟩ := h
        refine j_last dX12_ways_215 (h3 24 (by decide)) rfl hq ?_
        refine j_iinc 3 dX12_ways_216 rfl rfl (by decide) rfl ?_
        refine j_goto (tgt := 150) dX12_ways_219 (by decide) ?_
        refine j_sub [1, 2, 3, 0] rfl ?_
        exact zih _ _ _ _ _ h
def w_X12_ways_p54_b (post : am_I → am_N → Prop) (zk48 : Int32 → am_I → am_N → Prop) (zk54 : Int32 → Int32 → Int32 → am_I → am_N → Prop) (l1 : Int32) (l4 : Int32) (l5 : Int32) (M : am_I) (N : am_N) : Prop :=
  ((64 ≤ l5 → ((¬ l4 = (-1) → vp_in l4 64 ∧ w_X12_mayEnter l1 l4 (am_u M (3, 0, 25) l4.toNatClampNeg (vp_nar .boolean 1)) N (fun zr1 zM2 zN3 => ((¬ zr1 = 0 → ∃ n, w_X12_ways_p150 post zk48 n l1 l4 0 zM2 zN3) ∧ (zr1 = 0 → zk48 l1 zM2 zN3)))) ∧ (l4 = (-1) → post M N))) ∧ (¬ 64 ≤ l5 → vp_in l5 64 ∧ ((¬ (M (3, 0, 25) l5.toNatClampNeg) = 0 → zk54 l1 l4 (l5 + 1) M N) ∧ ((M (3, 0, 25) l5.toNatClampNeg) = 0 → vp_in l5 64 ∧ ((1000000000000000 ≤ (N (3, 0, 24) l5.toNatClampNeg) → zk54 l1 l4 (l5 + 1) M N) ∧ (¬ 1000000000000000 ≤ (N (3, 0, 24) l5.toNatClampNeg) → ((l4 = (-1) → zk54 l1 l5 (l5 + 1) M N) ∧ (¬ l4 = (-1) → vp_in l5 64 ∧ vp_in l4 64 ∧ (((N (3, 0, 24) l4.toNatClampNeg) ≤ (N (3, 0, 24) l5.toNatClampNeg) → zk54 l1 l4 (l5 + 1) M N) ∧ (¬ (N (3, 0, 24) l4.toNatClampNeg) ≤ (N (3, 0, 24) l5.toNatClampNeg) → zk54 l1 l5 (l5 + 1) M N))))))))))
noncomputable def w_X12_ways_p54 (post : am_I → am_N → Prop) (zk48 : Int32 → am_I → am_N → Prop) (n : Nat) : Int32 → Int32 → Int32 → am_I → am_N → Prop :=
  Nat.rec (motive := fun _ => Int32 → Int32 → Int32 → am_I → am_N → Prop) (fun _ _ _ _ _ => False) (fun _ zk => w_X12_ways_p54_b post zk48 zk) n
theorem w_X12_ways_p54_s (post : am_I → am_N → Prop) (zk48 : Int32 → am_I → am_N → Prop) (n : Nat) (l1 : Int32) (l4 : Int32) (l5 : Int32) (M : am_I) (N : am_N) : w_X12_ways_p54 post zk48 (n + 1) l1 l4 l5 M N = w_X12_ways_p54_b post zk48 (w_X12_ways_p54 post zk48 n) l1 l4 l5 M N := rfl
set_option maxRecDepth 10000 in
theorem k_X12_ways_p54 {d : Nat} {dm : List am_C} (h3 : am_d3 dm) {post : am_I → am_N → Prop} {zk48 : Int32 → am_I → am_N → Prop} (zhk48 : ∀ (l1 : Int32) (M : am_I) (N : am_N), zk48 l1 M N → jg (d + 4) mX12_ways dm 48 [(0, .inr (.inr (3, 0, 0))), (1, .inl l1)] [] M N (am_pv post)) : ∀ (n : Nat) (l1 : Int32) (l4 : Int32) (l5 : Int32) (M : am_I) (N : am_N), w_X12_ways_p54 post zk48 n l1 l4 l5 M N → jg (d + 4) mX12_ways dm 54 [(0, .inr (.inr (3, 0, 0))), (1, .inl l1), (4, .inl l4), (5, .inl l5)] [] M N (am_pv post) := by
  intro n
  induction n with
  | zero => intro l1 l4 l5 M N h; exact h.elim
  | succ n zih =>
    intro l1 l4 l5 M N h
    replace h : w_X12_ways_p54_b post zk48 (w_X12_ways_p54 post zk48 n) l1 l4 l5 M N := h
    refine j_iload 3 dX12_ways_54 rfl ?_
    refine j_bipush (v := 64) dX12_ways_56 (by decide) ?_
    refine j_icmp_ge (tgt := 119) dX12_ways_58 (by decide) (fun hc => ?_) (fun hc => ?_)
    · replace h := h.1 hc
      refine j_iload 2 dX12_ways_119 rfl ?_
      refine j_iconst (v := (-1)) dX12_ways_121 (by decide) ?_
      refine j_icmp_ne (tgt := 126) dX12_ways_122 (by decide) (fun hc => ?_) (fun hc => ?_)
      · replace h := h.1 hc
        refine j_aload_n 0 dX12_ways_126 rfl ?_
        refine j_getR (b := (3, 0, 25)) dX12_ways_127 fsRX12_88 (h3 0 (by decide)) rfl rfl ?_
        refine j_iload 2 dX12_ways_130 rfl ?_
        refine j_iconst (v := 1) dX12_ways_132 (by decide) ?_
        obtain ⟨hq, h⟩ := h
        refine j_zast dX12_ways_133 (h3 25 (by decide)) rfl hq ?_
        refine j_aload_n 0 dX12_ways_134 rfl ?_
        refine j_iload_n 1 dX12_ways_135 rfl ?_
        refine j_iload 2 dX12_ways_136 rfl ?_
        refine j_invV (As := [.inl l1, .inl l4]) dX12_ways_138 msRX12_254 mbX12_mayEnter rfl rfl (Nat.le_of_ble_eq_true rfl) (Nat.le_of_ble_eq_true rfl) (by omega) (h3 0 (by decide)) rfl rfl (k_X12_mayEnter (d := d + 1) h3 h) ?_
        rintro _ zM2 zN3 ⟨zr1, rfl, h⟩
        refine j_if_ne (tgt := 147) dX12_ways_141 (by decide) (fun hc => ?_) (fun hc => ?_)
        · replace h := h.1 hc
          refine j_iconst (v := 0) dX12_ways_147 (by decide) ?_
          refine j_istore dX12_ways_148 (by decide) rfl ?_
          refine j_sub [1, 2, 3, 0] rfl ?_
          obtain ⟨n, h⟩ := h
          exact k_X12_ways_p150 h3 zhk48 n _ _ _ _ _ h
        · replace h := h.2 hc
          refine j_goto (tgt := 48) dX12_ways_144 (by decide) ?_
          refine j_sub [0, 1] rfl ?_
          exact zhk48 _ _ _ h
      · replace h := h.2 hc
        exact j_vret dX12_ways_125 rfl ⟨rfl, h⟩
    · replace h := h.2 hc
      refine j_aload_n 0 dX12_ways_61 rfl ?_
      refine j_getR (b := (3, 0, 25)) dX12_ways_62 fsRX12_88 (h3 0 (by decide)) rfl rfl ?_
      refine j_iload 3 dX12_ways_65 rfl ?_
      obtain ⟨hq, h⟩ := h
      refine j_zald dX12_ways_67 (h3 25 (by decide)) rfl hq ?_
      refine j_if_ne (tgt := 113) dX12_ways_68 (by decide) (fun hc => ?_) (fun hc => ?_)
      · replace h := h.1 hc
        refine j_iinc 3 dX12_ways_113 rfl rfl (by decide) rfl ?_
        refine j_goto (tgt := 54) dX12_ways_116 (by decide) ?_
        refine j_sub [1, 2, 3, 0] rfl ?_
        exact zih _ _ _ _ _ h
      · replace h := h.2 hc
        refine j_aload_n 0 dX12_ways_71 rfl ?_
        refine j_getR (b := (3, 0, 24)) dX12_ways_72 fsRX12_85 (h3 0 (by decide)) rfl rfl ?_
        refine j_iload 3 dX12_ways_75 rfl ?_
        obtain ⟨hq, h⟩ := h
        refine j_lald dX12_ways_77 (h3 24 (by decide)) rfl hq ?_
        refine j_ldc2 (v := 1000000000000000) dX12_ways_78 cw_1659 ?_
        refine j_lcmp_ge (tgt := 113) dX12_ways_81 dX12_ways_82 (by decide) (fun hc => ?_) (fun hc => ?_)
        · replace h := h.1 hc
          refine j_iinc 3 dX12_ways_113 rfl rfl (by decide) rfl ?_
          refine j_goto (tgt := 54) dX12_ways_116 (by decide) ?_
          refine j_sub [1, 2, 3, 0] rfl ?_
          exact zih _ _ _ _ _ h
        · replace h := h.2 hc
          refine j_iload 2 dX12_ways_85 rfl ?_
          refine j_iconst (v := (-1)) dX12_ways_87 (by decide) ?_
          refine j_icmp_eq (tgt := 109) dX12_ways_88 (by decide) (fun hc => ?_) (fun hc => ?_)
          · replace h := h.1 hc
            refine j_iload 3 dX12_ways_109 rfl ?_
            refine j_istore dX12_ways_111 (by decide) rfl ?_
            refine j_iinc 3 dX12_ways_113 rfl rfl (by decide) rfl ?_
            refine j_goto (tgt := 54) dX12_ways_116 (by decide) ?_
            refine j_sub [2, 3, 1, 0] rfl ?_
            exact zih _ _ _ _ _ h
          · replace h := h.2 hc
            refine j_aload_n 0 dX12_ways_91 rfl ?_
            refine j_getR (b := (3, 0, 24)) dX12_ways_92 fsRX12_85 (h3 0 (by decide)) rfl rfl ?_
            refine j_iload 3 dX12_ways_95 rfl ?_
            obtain ⟨hq, h⟩ := h
            refine j_lald dX12_ways_97 (h3 24 (by decide)) rfl hq ?_
            refine j_aload_n 0 dX12_ways_98 rfl ?_
            refine j_getR (b := (3, 0, 24)) dX12_ways_99 fsRX12_85 (h3 0 (by decide)) rfl rfl ?_
            refine j_iload 2 dX12_ways_102 rfl ?_
            obtain ⟨hq, h⟩ := h
            refine j_lald dX12_ways_104 (h3 24 (by decide)) rfl hq ?_
            refine j_lcmp_ge (tgt := 113) dX12_ways_105 dX12_ways_106 (by decide) (fun hc => ?_) (fun hc => ?_)
            · replace h := h.1 hc
              refine j_iinc 3 dX12_ways_113 rfl rfl (by decide) rfl ?_
              refine j_goto (tgt := 54) dX12_ways_116 (by decide) ?_
              refine j_sub [1, 2, 3, 0] rfl ?_
              exact zih _ _ _ _ _ h
            · replace h := h.2 hc
              refine j_iload 3 dX12_ways_109 rfl ?_
              refine j_istore dX12_ways_111 (by decide) rfl ?_
              refine j_iinc 3 dX12_ways_113 rfl rfl (by decide) rfl ?_
              refine j_goto (tgt := 54) dX12_ways_116 (by decide) ?_
              refine j_sub [2, 3, 1, 0] rfl ?_
              exact zih _ _ _ _ _ h
def w_X12_ways_p48_b (post : am_I → am_N → Prop) (zk48 : Int32 → am_I → am_N → Prop) (l1 : Int32) (M : am_I) (N : am_N) : Prop :=
  ∃ n, w_X12_ways_p54 post zk48 n l1 (-1) 0 M N
noncomputable def w_X12_ways_p48 (post : am_I → am_N → Prop) (n : Nat) : Int32 → am_I → am_N → Prop :=
  Nat.rec (motive := fun _ => Int32 → am_I → am_N → Prop) (fun _ _ _ => False) (fun _ zk => w_X12_ways_p48_b post zk) n
theorem w_X12_ways_p48_s (post : am_I → am_N → Prop) (n : Nat) (l1 : Int32) (M : am_I) (N : am_N) : w_X12_ways_p48 post (n + 1) l1 M N = w_X12_ways_p48_b post (w_X12_ways_p48 post n) l1 M N := rfl
set_option maxRecDepth 10000 in
theorem k_X12_ways_p48 {d : Nat} {dm : List am_C} (h3 : am_d3 dm) {post : am_I → am_N → Prop} : ∀ (n : Nat) (l1 : Int32) (M : am_I) (N : am_N), w_X12_ways_p48 post n l1 M N → jg (d + 4) mX12_ways dm 48 [(0, .inr (.inr (3, 0, 0))), (1, .inl l1)] [] M N (am_pv post) := by
  intro n
  induction n with
  | zero => intro l1 M N h; exact h.elim
  | succ n zih =>
    intro l1 M N h
    replace h : w_X12_ways_p48_b post (w_X12_ways_p48 post n) l1 M N := h
    refine j_iconst (v := (-1)) dX12_ways_48 (by decide) ?_
    refine j_istore dX12_ways_49 (by decide) rfl ?_
    refine j_iconst (v := 0) dX12_ways_51 (by decide) ?_
    refine j_istore dX12_ways_52 (by decide) rfl ?_
    refine j_sub [2, 3, 1, 0] rfl ?_
    obtain ⟨n, h⟩ := h
    exact k_X12_ways_p54 h3 zih n _ _ _ _ _ h
def w_X12_ways_p33 (post : am_I → am_N → Prop) (zk3 : Int32 → Int32 → Int32 → Int32 → am_I → am_N → Prop) (l1 : Int32) (l2 : Int32) (l3 : Int32) (l4 : Int32) (s0 : Int64) (s1 : Int32) (M : am_I) (N : am_N) : Prop :=
  vp_in s1 64 ∧ vp_in l4 64 ∧ zk3 l1 l2 l3 (l4 + 1) (am_u M (3, 0, 25) l4.toNatClampNeg (vp_nar .boolean 0)) (am_ul N (3, 0, 24) s1.toNatClampNeg s0)
set_option maxRecDepth 10000 in
theorem k_X12_ways_p33 {d : Nat} {dm : List am_C} (h3 : am_d3 dm) {post : am_I → am_N → Prop} {zk3 : Int32 → Int32 → Int32 → Int32 → am_I → am_N → Prop} (zhk3 : ∀ (l1 : Int32) (l2 : Int32) (l3 : Int32) (l4 : Int32) (M : am_I) (N : am_N), zk3 l1 l2 l3 l4 M N → jg (d + 4) mX12_ways dm 3 [(0, .inr (.inr (3, 0, 0))), (1, .inl l1), (2, .inl l2), (3, .inl l3), (4, .inl l4)] [] M N (am_pv post)) (l1 : Int32) (l2 : Int32) (l3 : Int32) (l4 : Int32) (s0 : Int64) (s1 : Int32) (M : am_I) (N : am_N) (h : w_X12_ways_p33 post zk3 l1 l2 l3 l4 s0 s1 M N) : jg (d + 4) mX12_ways dm 33 [(0, .inr (.inr (3, 0, 0))), (1, .inl l1), (2, .inl l2), (3, .inl l3), (4, .inl l4)] [.inr (.inl s0), .inl s1, .inr (.inr (3, 0, 24))] M N (am_pv post) := by
  obtain ⟨hq, h⟩ := h
  refine j_last dX12_ways_33 (h3 24 (by decide)) rfl hq ?_
  refine j_aload_n 0 dX12_ways_34 rfl ?_
  refine j_getR (b := (3, 0, 25)) dX12_ways_35 fsRX12_88 (h3 0 (by decide)) rfl rfl ?_
  refine j_iload 4 dX12_ways_38 rfl ?_
  refine j_iconst (v := 0) dX12_ways_40 (by decide) ?_
  obtain ⟨hq, h⟩ := h
  refine j_zast dX12_ways_41 (h3 25 (by decide)) rfl hq ?_
  refine j_iinc 4 dX12_ways_42 rfl rfl (by decide) rfl ?_
  refine j_goto (tgt := 3) dX12_ways_45 (by decide) ?_
  refine j_sub [1, 2, 3, 4, 0] rfl ?_
  exact zhk3 _ _ _ _ _ _ h
def w_X12_ways_p3_b (post : am_I → am_N → Prop) (zk3 : Int32 → Int32 → Int32 → Int32 → am_I → am_N → Prop) (l1 : Int32) (l2 : Int32) (l3 : Int32) (l4 : Int32) (M : am_I) (N : am_N) : Prop :=
  ((64 ≤ l4 → ∃ n, w_X12_ways_p48 post n l1 M N) ∧ (¬ 64 ≤ l4 → w_X12_isGoal l4 l2 l3 M N (fun zr1 zM2 zN3 => ((zr1 = 0 → w_X12_ways_p33 post zk3 l1 l2 l3 l4 1000000000000000 l4 zM2 zN3) ∧ (¬ zr1 = 0 → w_X12_ways_p33 post zk3 l1 l2 l3 l4 0 l4 zM2 zN3)))))
noncomputable def w_X12_ways_p3 (post : am_I → am_N → Prop) (n : Nat) : Int32 → Int32 → Int32 → Int32 → am_I → am_N → Prop :=
  Nat.rec (motive := fun _ => Int32 → Int32 → Int32 → Int32 → am_I → am_N → Prop) (fun _ _ _ _ _ _ => False) (fun _ zk => w_X12_ways_p3_b post zk) n
theorem w_X12_ways_p3_s (post : am_I → am_N → Prop) (n : Nat) (l1 : Int32) (l2 : Int32) (l3 : Int32) (l4 : Int32) (M : am_I) (N : am_N) : w_X12_ways_p3 post (n + 1) l1 l2 l3 l4 M N = w_X12_ways_p3_b post (w_X12_ways_p3 post n) l1 l2 l3 l4 M N := rfl
set_option maxRecDepth 10000 in
theorem k_X12_ways_p3 {d : Nat} {dm : List am_C} (h3 : am_d3 dm) {post : am_I → am_N → Prop} : ∀ (n : Nat) (l1 : Int32) (l2 : Int32) (l3 : Int32) (l4 : Int32) (M : am_I) (N : am_N), w_X12_ways_p3 post n l1 l2 l3 l4 M N → jg (d + 4) mX12_ways dm 3 [(0, .inr (.inr (3, 0, 0))), (1, .inl l1), (2, .inl l2), (3, .inl l3), (4, .inl l4)] [] M N (am_pv post) := by
  intro n
  induction n with
  | zero => intro l1 l2 l3 l4 M N h; exact h.elim
  | succ n zih =>
    intro l1 l2 l3 l4 M N h
    replace h : w_X12_ways_p3_b post (w_X12_ways_p3 post n) l1 l2 l3 l4 M N := h
    refine j_iload 4 dX12_ways_3 rfl ?_
    refine j_bipush (v := 64) dX12_ways_5 (by decide) ?_
    refine j_icmp_ge (tgt := 48) dX12_ways_7 (by decide) (fun hc => ?_) (fun hc => ?_)
    · replace h := h.1 hc
      refine j_sub [0, 1] rfl ?_
      obtain ⟨n, h⟩ := h
      exact k_X12_ways_p48 h3 n _ _ _ h
    · replace h := h.2 hc
      refine j_aload_n 0 dX12_ways_10 rfl ?_
      refine j_getR (b := (3, 0, 24)) dX12_ways_11 fsRX12_85 (h3 0 (by decide)) rfl rfl ?_
      refine j_iload 4 dX12_ways_14 rfl ?_
      refine j_iload 4 dX12_ways_16 rfl ?_
      refine j_iload_n 2 dX12_ways_18 rfl ?_
      refine j_iload_n 3 dX12_ways_19 rfl ?_
      refine j_invS (As := [.inl l4, .inl l2, .inl l3]) dX12_ways_20 msRX12_248 mbX12_isGoal rfl rfl (Nat.le_of_ble_eq_true rfl) (Nat.le_of_ble_eq_true rfl) (by omega) (k_X12_isGoal (d := d + 0)  h) ?_
      rintro _ zM2 zN3 ⟨zr1, rfl, h⟩
      refine j_if_eq (tgt := 30) dX12_ways_23 (by decide) (fun hc => ?_) (fun hc => ?_)
      · replace h := h.1 hc
        refine j_ldc2 (v := 1000000000000000) dX12_ways_30 cw_1659 ?_
        refine j_sub [0, 1, 2, 3, 4] rfl ?_
        exact k_X12_ways_p33 h3 zih _ _ _ _ _ _ _ _ h
      · replace h := h.2 hc
        refine j_lconst (v := 0) dX12_ways_26 (by decide) ?_
        refine j_goto (tgt := 33) dX12_ways_27 (by decide) ?_
        refine j_sub [0, 1, 2, 3, 4] rfl ?_
        exact k_X12_ways_p33 h3 zih _ _ _ _ _ _ _ _ h
def w_X12_ways (a1 : Int32) (a2 : Int32) (a3 : Int32) (M : am_I) (N : am_N) (post : am_I → am_N → Prop) : Prop :=
  ∃ n, w_X12_ways_p3 post n a1 a2 a3 0 M N
set_option maxRecDepth 10000 in
theorem k_X12_ways {d : Nat} {dm : List am_C} (h3 : am_d3 dm) {a1 : Int32} {a2 : Int32} {a3 : Int32} {M : am_I} {N : am_N} {post : am_I → am_N → Prop} (h : w_X12_ways a1 a2 a3 M N post) : jg (d + 4) mX12_ways dm 0 [(0, .inr (.inr (3, 0, 0))), (1, .inl a1), (2, .inl a2), (3, .inl a3)] [] M N (am_pv post) := by
  refine j_iconst (v := 0) dX12_ways_0 (by decide) ?_
  refine j_istore dX12_ways_1 (by decide) rfl ?_
  refine j_sub [1, 2, 3, 4, 0] rfl ?_
  obtain ⟨n, h⟩ := h
  exact k_X12_ways_p3 h3 n _ _ _ _ _ _ h
def w_X12_way (a1 : Int32) (a2 : Int32) (a3 : Int32) (M : am_I) (N : am_N) (post : Int32 → am_I → am_N → Prop) : Prop :=
  w_X12_isCart a1 M N (fun zr1 zM2 zN3 => ((zr1 = 0 → post (-1) zM2 zN3) ∧ (¬ zr1 = 0 → w_X12_isCell a2 zM2 zN3 (fun zr4 zM5 zN6 => ((zr4 = 0 → post (-1) zM5 zN6) ∧ (¬ zr4 = 0 → w_X12_isIn a3 0 2 zM5 zN6 (fun zr7 zM8 zN9 => ((¬ zr7 = 0 → w_X12_ways a1 a2 0 zM8 zN9 (fun zM10 zN11 => vp_in (960 + a1) 1635 ∧ vp_in (zM10 (3, 0, 1) (960 + a1).toNatClampNeg) 64 ∧ ∀ zv12 : Int64, zv12 = zN11 (3, 0, 24) (zM10 (3, 0, 1) (960 + a1).toNatClampNeg).toNatClampNeg → ((¬ zv12 = 1000000000000000 → ((¬ a3 = 0 → ((¬ a3 = 1 → vp_in (960 + a1) 1635 ∧ w_X12_nextOf a1 (zM10 (3, 0, 1) (960 + a1).toNatClampNeg) zM10 zN11 (fun zr13 zM14 zN15 => post zr13 zM14 zN15)) ∧ (a3 = 1 → post ((am_reml zv12 1000000).toInt32) zM10 zN11))) ∧ (a3 = 0 → post ((zv12 / 1000000).toInt32) zM10 zN11))) ∧ (zv12 = 1000000000000000 → post (-1) zM10 zN11)))) ∧ (zr7 = 0 → post (-1) zM8 zN9)))))))))
set_option maxRecDepth 10000 in
theorem k_X12_way {d : Nat} {dm : List am_C} (h3 : am_d3 dm) {a1 : Int32} {a2 : Int32} {a3 : Int32} {M : am_I} {N : am_N} {post : Int32 → am_I → am_N → Prop} (h : w_X12_way a1 a2 a3 M N post) : jg (d + 5) mX12_way dm 0 [(0, .inr (.inr (3, 0, 0))), (1, .inl a1), (2, .inl a2), (3, .inl a3)] [] M N (am_pi post) := by
  refine j_aload_n 0 dX12_way_0 rfl ?_
  refine j_iload_n 1 dX12_way_1 rfl ?_
  refine j_invV (As := [.inl a1]) dX12_way_2 msRX12_216 mbX12_isCart rfl rfl (Nat.le_of_ble_eq_true rfl) (Nat.le_of_ble_eq_true rfl) (by omega) (h3 0 (by decide)) rfl rfl (k_X12_isCart (d := d + 2) h3 h) ?_
  rintro _ zM2 zN3 ⟨zr1, rfl, h⟩
  refine j_if_eq (tgt := 24) dX12_way_5 (by decide) (fun hc => ?_) (fun hc => ?_)
  · replace h := h.1 hc
    refine j_iconst (v := (-1)) dX12_way_24 (by decide) ?_
    exact j_iret dX12_way_25 rfl ⟨_, rfl, h⟩
  · replace h := h.2 hc
    refine j_iload_n 2 dX12_way_8 rfl ?_
    refine j_invS (As := [.inl a2]) dX12_way_9 msRX12_199 mbX12_isCell rfl rfl (Nat.le_of_ble_eq_true rfl) (Nat.le_of_ble_eq_true rfl) (by omega) (k_X12_isCell (d := d + 2)  h) ?_
    rintro _ zM5 zN6 ⟨zr4, rfl, h⟩
    refine j_if_eq (tgt := 24) dX12_way_12 (by decide) (fun hc => ?_) (fun hc => ?_)
    · replace h := h.1 hc
      refine j_iconst (v := (-1)) dX12_way_24 (by decide) ?_
      exact j_iret dX12_way_25 rfl ⟨_, rfl, h⟩
    · replace h := h.2 hc
      refine j_iload_n 3 dX12_way_15 rfl ?_
      refine j_iconst (v := 0) dX12_way_16 (by decide) ?_
      refine j_iconst (v := 2) dX12_way_17 (by decide) ?_
      refine j_invS (As := [.inl a3, .inl 0, .inl 2]) dX12_way_18 msRX12_162 mbX12_isIn rfl rfl (Nat.le_of_ble_eq_true rfl) (Nat.le_of_ble_eq_true rfl) (by omega) (k_X12_isIn (d := d + 3)  h) ?_
      rintro _ zM8 zN9 ⟨zr7, rfl, h⟩
      refine j_if_ne (tgt := 26) dX12_way_21 (by decide) (fun hc => ?_) (fun hc => ?_)
      · replace h := h.1 hc
        refine j_aload_n 0 dX12_way_26 rfl ?_
        refine j_iload_n 1 dX12_way_27 rfl ?_
        refine j_iload_n 2 dX12_way_28 rfl ?_
        refine j_iconst (v := 0) dX12_way_29 (by decide) ?_
        refine j_invV (As := [.inl a1, .inl a2, .inl 0]) dX12_way_30 msRX12_266 mbX12_ways rfl rfl (Nat.le_of_ble_eq_true rfl) (Nat.le_of_ble_eq_true rfl) (by omega) (h3 0 (by decide)) rfl rfl (k_X12_ways (d := d + 0) h3 h) ?_
        rintro _ zM10 zN11 ⟨rfl, h⟩
        refine j_aload_n 0 dX12_way_33 rfl ?_
        refine j_getR (b := (3, 0, 24)) dX12_way_34 fsRX12_85 (h3 0 (by decide)) rfl rfl ?_
        refine j_aload_n 0 dX12_way_37 rfl ?_
        refine j_getR (b := (3, 0, 1)) dX12_way_38 fsRX12_7 (h3 0 (by decide)) rfl rfl ?_
        refine j_sipush (v := 960) dX12_way_41 (by decide) ?_
        refine j_iload_n 1 dX12_way_44 rfl ?_
        refine j_iadd dX12_way_45 ?_
        obtain ⟨hq, h⟩ := h
        refine j_iald dX12_way_46 (h3 1 (by decide)) rfl hq ?_
        obtain ⟨hq, h⟩ := h
        refine j_lald dX12_way_47 (h3 24 (by decide)) rfl hq ?_
        refine j_topl (fun zv12 hzv12 => ?_)
        replace h := h zv12 hzv12
        refine j_lstore dX12_way_48 (by decide) rfl ?_
        refine j_lload 0 dX12_way_50 rfl ?_
        refine j_ldc2 (v := 1000000000000000) dX12_way_52 cw_1659 ?_
        refine j_lcmp_ne (tgt := 61) dX12_way_55 dX12_way_56 (by decide) (fun hc => ?_) (fun hc => ?_)
        · replace h := h.1 hc
          refine j_iload_n 4 dX12_way_61 rfl ?_
          refine j_if_ne (tgt := 75) dX12_way_62 (by decide) (fun hc => ?_) (fun hc => ?_)
          · replace h := h.1 hc
            refine j_iload_n 4 dX12_way_75 rfl ?_
            refine j_iconst (v := 1) dX12_way_76 (by decide) ?_
            refine j_icmp_ne (tgt := 90) dX12_way_77 (by decide) (fun hc => ?_) (fun hc => ?_)
            · replace h := h.1 hc
              refine j_aload_n 1 dX12_way_90 rfl ?_
              refine j_iload_n 2 dX12_way_91 rfl ?_
              refine j_aload_n 1 dX12_way_92 rfl ?_
              refine j_getR (b := (3, 0, 1)) dX12_way_93 fsRX12_7 (h3 0 (by decide)) rfl rfl ?_
              refine j_sipush (v := 960) dX12_way_96 (by decide) ?_
              refine j_iload_n 2 dX12_way_99 rfl ?_
              refine j_iadd dX12_way_100 ?_
              obtain ⟨hq, h⟩ := h
              refine j_iald dX12_way_101 (h3 1 (by decide)) rfl hq ?_
              refine j_invV (As := [.inl a1, .inl (zM10 (3, 0, 1) (960 + a1).toNatClampNeg)]) dX12_way_102 msRX12_270 mbX12_nextOf rfl rfl (Nat.le_of_ble_eq_true rfl) (Nat.le_of_ble_eq_true rfl) (by omega) (h3 0 (by decide)) rfl rfl (k_X12_nextOf (d := d + 1) h3 h) ?_
              rintro _ zM14 zN15 ⟨zr13, rfl, h⟩
              exact j_iret dX12_way_105 rfl ⟨_, rfl, h⟩
            · replace h := h.2 hc
              refine j_lload 0 dX12_way_80 rfl ?_
              refine j_ldc2 (v := 1000000) dX12_way_82 cw_1671 ?_
              refine j_lrem dX12_way_85 (by decide) ?_
              refine j_l2i dX12_way_86 ?_
              refine j_goto (tgt := 105) dX12_way_87 (by decide) ?_
              exact j_iret dX12_way_105 rfl ⟨_, rfl, h⟩
          · replace h := h.2 hc
            refine j_lload 0 dX12_way_65 rfl ?_
            refine j_ldc2 (v := 1000000) dX12_way_67 cw_1671 ?_
            refine j_ldiv dX12_way_70 (by decide) ?_
            refine j_l2i dX12_way_71 ?_
            refine j_goto (tgt := 105) dX12_way_72 (by decide) ?_
            exact j_iret dX12_way_105 rfl ⟨_, rfl, h⟩
        · replace h := h.2 hc
          refine j_iconst (v := (-1)) dX12_way_59 (by decide) ?_
          exact j_iret dX12_way_60 rfl ⟨_, rfl, h⟩
      · replace h := h.2 hc
        refine j_iconst (v := (-1)) dX12_way_24 (by decide) ?_
        exact j_iret dX12_way_25 rfl ⟨_, rfl, h⟩
def w_X12_offers_p136 (post : am_I → am_N → Prop) (zk2 : Int32 → am_I → am_N → Prop) (zk37 : Int32 → Int32 → Int64 → Int32 → am_I → am_N → Prop) (l1 : Int32) (l5 : Int32) (l6 : Int64) (M : am_I) (N : am_N) : Prop :=
  ∀ zv1 : Int64, zv1 = l6 / 1000000 → zk37 l1 l5 zv1 (l5 + 1) M N
set_option maxRecDepth 10000 in
theorem k_X12_offers_p136 {d : Nat} {dm : List am_C} (h3 : am_d3 dm) {post : am_I → am_N → Prop} {zk2 : Int32 → am_I → am_N → Prop} {zk37 : Int32 → Int32 → Int64 → Int32 → am_I → am_N → Prop} (zhk2 : ∀ (l1 : Int32) (M : am_I) (N : am_N), zk2 l1 M N → jg (d + 5) mX12_offers dm 2 [(0, .inr (.inr (3, 0, 0))), (1, .inl l1)] [] M N (am_pv post)) (zhk37 : ∀ (l1 : Int32) (l2 : Int32) (l3 : Int64) (l5 : Int32) (M : am_I) (N : am_N), zk37 l1 l2 l3 l5 M N → jg (d + 5) mX12_offers dm 37 [(0, .inr (.inr (3, 0, 0))), (1, .inl l1), (2, .inl l2), (3, .inr (.inl l3)), (5, .inl l5)] [] M N (am_pv post)) (l1 : Int32) (l5 : Int32) (l6 : Int64) (M : am_I) (N : am_N) (h : w_X12_offers_p136 post zk2 zk37 l1 l5 l6 M N) : jg (d + 5) mX12_offers dm 136 [(0, .inr (.inr (3, 0, 0))), (1, .inl l1), (5, .inl l5), (6, .inr (.inl l6))] [] M N (am_pv post) := by
  refine j_iload 2 dX12_offers_136 rfl ?_
  refine j_istore_n dX12_offers_138 (by decide) rfl ?_
  refine j_lload 4 dX12_offers_139 rfl ?_
  refine j_ldc2 (v := 1000000) dX12_offers_141 cw_1671 ?_
  refine j_ldiv dX12_offers_144 (by decide) ?_
  refine j_topl (fun zv1 hzv1 => ?_)
  replace h := h zv1 hzv1
  refine j_lstore_n dX12_offers_145 (by decide) rfl ?_
  refine j_iinc 4 dX12_offers_146 rfl rfl (by decide) rfl ?_
  refine j_goto (tgt := 37) dX12_offers_149 (by decide) ?_
  refine j_sub [3, 4, 2, 1, 0] rfl ?_
  exact zhk37 _ _ _ _ _ _ h
def w_X12_offers_p87 (post : am_I → am_N → Prop) (zk2 : Int32 → am_I → am_N → Prop) (zk37 : Int32 → Int32 → Int64 → Int32 → am_I → am_N → Prop) (l1 : Int32) (l2 : Int32) (l3 : Int64) (l5 : Int32) (s0 : Int32) (s1 : Int32) (s2 : Int32) (M : am_I) (N : am_N) : Prop :=
  w_X12_ways s2 s1 s0 M N (fun zM1 zN2 => vp_in (960 + l5) 1635 ∧ vp_in (zM1 (3, 0, 1) (960 + l5).toNatClampNeg) 64 ∧ ∀ zv3 : Int64, zv3 = zN2 (3, 0, 24) (zM1 (3, 0, 1) (960 + l5).toNatClampNeg).toNatClampNeg → ((zv3 = 1000000000000000 → zk37 l1 l2 l3 (l5 + 1) zM1 zN2) ∧ (¬ zv3 = 1000000000000000 → ((l2 = (-1) → w_X12_offers_p136 post zk2 zk37 l1 l5 zv3 zM1 zN2) ∧ (¬ l2 = (-1) → (((zv3 / 1000000) < l3 → w_X12_offers_p136 post zk2 zk37 l1 l5 zv3 zM1 zN2) ∧ (¬ (zv3 / 1000000) < l3 → zk37 l1 l2 l3 (l5 + 1) zM1 zN2)))))))
set_option maxRecDepth 10000 in
theorem k_X12_offers_p87 {d : Nat} {dm : List am_C} (h3 : am_d3 dm) {post : am_I → am_N → Prop} {zk2 : Int32 → am_I → am_N → Prop} {zk37 : Int32 → Int32 → Int64 → Int32 → am_I → am_N → Prop} (zhk2 : ∀ (l1 : Int32) (M : am_I) (N : am_N), zk2 l1 M N → jg (d + 5) mX12_offers dm 2 [(0, .inr (.inr (3, 0, 0))), (1, .inl l1)] [] M N (am_pv post)) (zhk37 : ∀ (l1 : Int32) (l2 : Int32) (l3 : Int64) (l5 : Int32) (M : am_I) (N : am_N), zk37 l1 l2 l3 l5 M N → jg (d + 5) mX12_offers dm 37 [(0, .inr (.inr (3, 0, 0))), (1, .inl l1), (2, .inl l2), (3, .inr (.inl l3)), (5, .inl l5)] [] M N (am_pv post)) (l1 : Int32) (l2 : Int32) (l3 : Int64) (l5 : Int32) (s0 : Int32) (s1 : Int32) (s2 : Int32) (M : am_I) (N : am_N) (h : w_X12_offers_p87 post zk2 zk37 l1 l2 l3 l5 s0 s1 s2 M N) : jg (d + 5) mX12_offers dm 87 [(0, .inr (.inr (3, 0, 0))), (1, .inl l1), (2, .inl l2), (3, .inr (.inl l3)), (5, .inl l5)] [.inl s0, .inl s1, .inl s2, .inr (.inr (3, 0, 0))] M N (am_pv post) := by
  refine j_invV (As := [.inl s2, .inl s1, .inl s0]) dX12_offers_87 msRX12_266 mbX12_ways rfl rfl (Nat.le_of_ble_eq_true rfl) (Nat.le_of_ble_eq_true rfl) (by omega) (h3 0 (by decide)) rfl rfl (k_X12_ways (d := d + 0) h3 h) ?_
  rintro _ zM1 zN2 ⟨rfl, h⟩
  refine j_aload_n 0 dX12_offers_90 rfl ?_
  refine j_getR (b := (3, 0, 24)) dX12_offers_91 fsRX12_85 (h3 0 (by decide)) rfl rfl ?_
  refine j_aload_n 0 dX12_offers_94 rfl ?_
  refine j_getR (b := (3, 0, 1)) dX12_offers_95 fsRX12_7 (h3 0 (by decide)) rfl rfl ?_
  refine j_sipush (v := 960) dX12_offers_98 (by decide) ?_
  refine j_iload 4 dX12_offers_101 rfl ?_
  refine j_iadd dX12_offers_103 ?_
  obtain ⟨hq, h⟩ := h
  refine j_iald dX12_offers_104 (h3 1 (by decide)) rfl hq ?_
  obtain ⟨hq, h⟩ := h
  refine j_lald dX12_offers_105 (h3 24 (by decide)) rfl hq ?_
  refine j_topl (fun zv3 hzv3 => ?_)
  replace h := h zv3 hzv3
  refine j_lstore dX12_offers_106 (by decide) rfl ?_
  refine j_lload 0 dX12_offers_108 rfl ?_
  refine j_ldc2 (v := 1000000000000000) dX12_offers_110 cw_1659 ?_
  refine j_lcmp_eq (tgt := 146) dX12_offers_113 dX12_offers_114 (by decide) (fun hc => ?_) (fun hc => ?_)
  · replace h := h.1 hc
    refine j_iinc 5 dX12_offers_146 rfl rfl (by decide) rfl ?_
    refine j_goto (tgt := 37) dX12_offers_149 (by decide) ?_
    refine j_sub [2, 3, 4, 5, 0] rfl ?_
    exact zhk37 _ _ _ _ _ _ h
  · replace h := h.2 hc
    refine j_iload_n 3 dX12_offers_117 rfl ?_
    refine j_iconst (v := (-1)) dX12_offers_118 (by decide) ?_
    refine j_icmp_eq (tgt := 136) dX12_offers_119 (by decide) (fun hc => ?_) (fun hc => ?_)
    · replace h := h.1 hc
      refine j_sub [1, 2, 5, 0] rfl ?_
      exact k_X12_offers_p136 h3 zhk2 zhk37 _ _ _ _ _ h
    · replace h := h.2 hc
      refine j_lload 0 dX12_offers_122 rfl ?_
      refine j_ldc2 (v := 1000000) dX12_offers_124 cw_1671 ?_
      refine j_ldiv dX12_offers_127 (by decide) ?_
      refine j_lload_n 4 dX12_offers_128 rfl ?_
      refine j_lcmp_lt (tgt := 136) dX12_offers_129 dX12_offers_130 (by decide) (fun hc => ?_) (fun hc => ?_)
      · replace h := h.1 hc
        refine j_sub [1, 2, 5, 0] rfl ?_
        exact k_X12_offers_p136 h3 zhk2 zhk37 _ _ _ _ _ h
      · replace h := h.2 hc
        refine j_goto (tgt := 146) dX12_offers_133 (by decide) ?_
        refine j_iinc 5 dX12_offers_146 rfl rfl (by decide) rfl ?_
        refine j_goto (tgt := 37) dX12_offers_149 (by decide) ?_
        refine j_sub [2, 3, 4, 5, 0] rfl ?_
        exact zhk37 _ _ _ _ _ _ h
def w_X12_offers_p37_b (post : am_I → am_N → Prop) (zk2 : Int32 → am_I → am_N → Prop) (zk37 : Int32 → Int32 → Int64 → Int32 → am_I → am_N → Prop) (l1 : Int32) (l2 : Int32) (l3 : Int64) (l5 : Int32) (M : am_I) (N : am_N) : Prop :=
  (((M (3, 0, 1) 1631) ≤ l5 → ((¬ l2 = (-1) → vp_in (1504 + l1) 1635 ∧ vp_in (1564 + l1) 1635 ∧ vp_in (976 + l2) 1635 ∧ vp_in (984 + l2) 1635 ∧ zk2 (l1 + 1) (am_u (am_u (am_u (am_u M (3, 0, 1) (1504 + l1).toNatClampNeg 1) (3, 0, 1) (1564 + l1).toNatClampNeg l2) (3, 0, 1) (976 + l2).toNatClampNeg 1) (3, 0, 1) (984 + l2).toNatClampNeg l1) N) ∧ (l2 = (-1) → zk2 (l1 + 1) M N))) ∧ (¬ (M (3, 0, 1) 1631) ≤ l5 → w_X12_mayTake l5 l1 M N (fun zr1 zM2 zN3 => ((¬ zr1 = 0 → vp_in l1 60 ∧ vp_in l1 60 ∧ ((¬ (zM2 (3, 0, 16) l1.toNatClampNeg) = 3 → w_X12_offers_p87 post zk2 zk37 l1 l2 l3 l5 0 (zM2 (3, 0, 17) l1.toNatClampNeg) l5 zM2 zN3) ∧ ((zM2 (3, 0, 16) l1.toNatClampNeg) = 3 → w_X12_offers_p87 post zk2 zk37 l1 l2 l3 l5 1 (zM2 (3, 0, 17) l1.toNatClampNeg) l5 zM2 zN3))) ∧ (zr1 = 0 → zk37 l1 l2 l3 (l5 + 1) zM2 zN3)))))
noncomputable def w_X12_offers_p37 (post : am_I → am_N → Prop) (zk2 : Int32 → am_I → am_N → Prop) (n : Nat) : Int32 → Int32 → Int64 → Int32 → am_I → am_N → Prop :=
  Nat.rec (motive := fun _ => Int32 → Int32 → Int64 → Int32 → am_I → am_N → Prop) (fun _ _ _ _ _ _ => False) (fun _ zk => w_X12_offers_p37_b post zk2 zk) n
theorem w_X12_offers_p37_s (post : am_I → am_N → Prop) (zk2 : Int32 → am_I → am_N → Prop) (n : Nat) (l1 : Int32) (l2 : Int32) (l3 : Int64) (l5 : Int32) (M : am_I) (N : am_N) : w_X12_offers_p37 post zk2 (n + 1) l1 l2 l3 l5 M N = w_X12_offers_p37_b post zk2 (w_X12_offers_p37 post zk2 n) l1 l2 l3 l5 M N := rfl
set_option maxRecDepth 10000 in
theorem k_X12_offers_p37 {d : Nat} {dm : List am_C} (h3 : am_d3 dm) {post : am_I → am_N → Prop} {zk2 : Int32 → am_I → am_N → Prop} (zhk2 : ∀ (l1 : Int32) (M : am_I) (N : am_N), zk2 l1 M N → jg (d + 5) mX12_offers dm 2 [(0, .inr (.inr (3, 0, 0))), (1, .inl l1)] [] M N (am_pv post)) : ∀ (n : Nat) (l1 : Int32) (l2 : Int32) (l3 : Int64) (l5 : Int32) (M : am_I) (N : am_N), w_X12_offers_p37 post zk2 n l1 l2 l3 l5 M N → jg (d + 5) mX12_offers dm 37 [(0, .inr (.inr (3, 0, 0))), (1, .inl l1), (2, .inl l2), (3, .inr (.inl l3)), (5, .inl l5)] [] M N (am_pv post) := by
  intro n
  induction n with
  | zero => intro l1 l2 l3 l5 M N h; exact h.elim
  | succ n zih =>
    intro l1 l2 l3 l5 M N h
    replace h : w_X12_offers_p37_b post zk2 (w_X12_offers_p37 post zk2 n) l1 l2 l3 l5 M N := h
    refine j_iload 4 dX12_offers_37 rfl ?_
    refine j_aload_n 0 dX12_offers_39 rfl ?_
    refine j_getR (b := (3, 0, 1)) dX12_offers_40 fsRX12_7 (h3 0 (by decide)) rfl rfl ?_
    refine j_sipush (v := 1631) dX12_offers_43 (by decide) ?_
    refine j_iald dX12_offers_46 (h3 1 (by decide)) rfl (by unfold vp_in; decide) ?_
    refine j_icmp_ge (tgt := 152) dX12_offers_47 (by decide) (fun hc => ?_) (fun hc => ?_)
    · replace h := h.1 hc
      refine j_iload_n 2 dX12_offers_152 rfl ?_
      refine j_iconst (v := (-1)) dX12_offers_153 (by decide) ?_
      refine j_icmp_ne (tgt := 160) dX12_offers_154 (by decide) (fun hc => ?_) (fun hc => ?_)
      · replace h := h.1 hc
        refine j_aload_n 0 dX12_offers_160 rfl ?_
        refine j_getR (b := (3, 0, 1)) dX12_offers_161 fsRX12_7 (h3 0 (by decide)) rfl rfl ?_
        refine j_sipush (v := 1504) dX12_offers_164 (by decide) ?_
        refine j_iload_n 1 dX12_offers_167 rfl ?_
        refine j_iadd dX12_offers_168 ?_
        refine j_iconst (v := 1) dX12_offers_169 (by decide) ?_
        obtain ⟨hq, h⟩ := h
        refine j_iast dX12_offers_170 (h3 1 (by decide)) rfl hq ?_
        refine j_aload_n 0 dX12_offers_171 rfl ?_
        refine j_getR (b := (3, 0, 1)) dX12_offers_172 fsRX12_7 (h3 0 (by decide)) rfl rfl ?_
        refine j_sipush (v := 1564) dX12_offers_175 (by decide) ?_
        refine j_iload_n 1 dX12_offers_178 rfl ?_
        refine j_iadd dX12_offers_179 ?_
        refine j_iload_n 2 dX12_offers_180 rfl ?_
        obtain ⟨hq, h⟩ := h
        refine j_iast dX12_offers_181 (h3 1 (by decide)) rfl hq ?_
        refine j_aload_n 0 dX12_offers_182 rfl ?_
        refine j_getR (b := (3, 0, 1)) dX12_offers_183 fsRX12_7 (h3 0 (by decide)) rfl rfl ?_
        refine j_sipush (v := 976) dX12_offers_186 (by decide) ?_
        refine j_iload_n 2 dX12_offers_189 rfl ?_
        refine j_iadd dX12_offers_190 ?_
        refine j_iconst (v := 1) dX12_offers_191 (by decide) ?_
        obtain ⟨hq, h⟩ := h
        refine j_iast dX12_offers_192 (h3 1 (by decide)) rfl hq ?_
        refine j_aload_n 0 dX12_offers_193 rfl ?_
        refine j_getR (b := (3, 0, 1)) dX12_offers_194 fsRX12_7 (h3 0 (by decide)) rfl rfl ?_
        refine j_sipush (v := 984) dX12_offers_197 (by decide) ?_
        refine j_iload_n 2 dX12_offers_200 rfl ?_
        refine j_iadd dX12_offers_201 ?_
        refine j_iload_n 1 dX12_offers_202 rfl ?_
        obtain ⟨hq, h⟩ := h
        refine j_iast dX12_offers_203 (h3 1 (by decide)) rfl hq ?_
        refine j_iinc 1 dX12_offers_204 rfl rfl (by decide) rfl ?_
        refine j_goto (tgt := 2) dX12_offers_207 (by decide) ?_
        refine j_sub [1, 0] rfl ?_
        exact zhk2 _ _ _ h
      · replace h := h.2 hc
        refine j_goto (tgt := 204) dX12_offers_157 (by decide) ?_
        refine j_iinc 1 dX12_offers_204 rfl rfl (by decide) rfl ?_
        refine j_goto (tgt := 2) dX12_offers_207 (by decide) ?_
        refine j_sub [1, 0] rfl ?_
        exact zhk2 _ _ _ h
    · replace h := h.2 hc
      refine j_aload_n 0 dX12_offers_50 rfl ?_
      refine j_iload 4 dX12_offers_51 rfl ?_
      refine j_iload_n 1 dX12_offers_53 rfl ?_
      refine j_invV (As := [.inl l5, .inl l1]) dX12_offers_54 msRX12_273 mbX12_mayTake rfl rfl (Nat.le_of_ble_eq_true rfl) (Nat.le_of_ble_eq_true rfl) (by omega) (h3 0 (by decide)) rfl rfl (k_X12_mayTake (d := d + 2) h3 h) ?_
      rintro _ zM2 zN3 ⟨zr1, rfl, h⟩
      refine j_if_ne (tgt := 63) dX12_offers_57 (by decide) (fun hc => ?_) (fun hc => ?_)
      · replace h := h.1 hc
        refine j_aload_n 0 dX12_offers_63 rfl ?_
        refine j_iload 4 dX12_offers_64 rfl ?_
        refine j_aload_n 0 dX12_offers_66 rfl ?_
        refine j_getR (b := (3, 0, 17)) dX12_offers_67 fsRX12_58 (h3 0 (by decide)) rfl rfl ?_
        refine j_iload_n 1 dX12_offers_70 rfl ?_
        obtain ⟨hq, h⟩ := h
        refine j_iald dX12_offers_71 (h3 17 (by decide)) rfl hq ?_
        refine j_aload_n 0 dX12_offers_72 rfl ?_
        refine j_getR (b := (3, 0, 16)) dX12_offers_73 fsRX12_55 (h3 0 (by decide)) rfl rfl ?_
        refine j_iload_n 1 dX12_offers_76 rfl ?_
        obtain ⟨hq, h⟩ := h
        refine j_iald dX12_offers_77 (h3 16 (by decide)) rfl hq ?_
        refine j_iconst (v := 3) dX12_offers_78 (by decide) ?_
        refine j_icmp_ne (tgt := 86) dX12_offers_79 (by decide) (fun hc => ?_) (fun hc => ?_)
        · replace h := h.1 hc
          refine j_iconst (v := 0) dX12_offers_86 (by decide) ?_
          refine j_sub [0, 1, 2, 3, 4] rfl ?_
          exact k_X12_offers_p87 h3 zhk2 zih _ _ _ _ _ _ _ _ _ h
        · replace h := h.2 hc
          refine j_iconst (v := 1) dX12_offers_82 (by decide) ?_
          refine j_goto (tgt := 87) dX12_offers_83 (by decide) ?_
          refine j_sub [0, 1, 2, 3, 4] rfl ?_
          exact k_X12_offers_p87 h3 zhk2 zih _ _ _ _ _ _ _ _ _ h
      · replace h := h.2 hc
        refine j_goto (tgt := 146) dX12_offers_60 (by decide) ?_
        refine j_iinc 4 dX12_offers_146 rfl rfl (by decide) rfl ?_
        refine j_goto (tgt := 37) dX12_offers_149 (by decide) ?_
        refine j_sub [1, 2, 3, 4, 0] rfl ?_
        exact zih _ _ _ _ _ _ h
def w_X12_offers_p2_b (post : am_I → am_N → Prop) (zk2 : Int32 → am_I → am_N → Prop) (l1 : Int32) (M : am_I) (N : am_N) : Prop :=
  (((M (3, 0, 1) 1632) ≤ l1 → post M N) ∧ (¬ (M (3, 0, 1) 1632) ≤ l1 → vp_in (1504 + l1) 1635 ∧ (((M (3, 0, 1) (1504 + l1).toNatClampNeg) = 0 → ∃ n, w_X12_offers_p37 post zk2 n l1 (-1) 0 0 M N) ∧ (¬ (M (3, 0, 1) (1504 + l1).toNatClampNeg) = 0 → zk2 (l1 + 1) M N))))
noncomputable def w_X12_offers_p2 (post : am_I → am_N → Prop) (n : Nat) : Int32 → am_I → am_N → Prop :=
  Nat.rec (motive := fun _ => Int32 → am_I → am_N → Prop) (fun _ _ _ => False) (fun _ zk => w_X12_offers_p2_b post zk) n
theorem w_X12_offers_p2_s (post : am_I → am_N → Prop) (n : Nat) (l1 : Int32) (M : am_I) (N : am_N) : w_X12_offers_p2 post (n + 1) l1 M N = w_X12_offers_p2_b post (w_X12_offers_p2 post n) l1 M N := rfl
set_option maxRecDepth 10000 in
theorem k_X12_offers_p2 {d : Nat} {dm : List am_C} (h3 : am_d3 dm) {post : am_I → am_N → Prop} : ∀ (n : Nat) (l1 : Int32) (M : am_I) (N : am_N), w_X12_offers_p2 post n l1 M N → jg (d + 5) mX12_offers dm 2 [(0, .inr (.inr (3, 0, 0))), (1, .inl l1)] [] M N (am_pv post) := by
  intro n
  induction n with
  | zero => intro l1 M N h; exact h.elim
  | succ n zih =>
    intro l1 M N h
    replace h : w_X12_offers_p2_b post (w_X12_offers_p2 post n) l1 M N := h
    refine j_iload_n 1 dX12_offers_2 rfl ?_
    refine j_aload_n 0 dX12_offers_3 rfl ?_
    refine j_getR (b := (3, 0, 1)) dX12_offers_4 fsRX12_7 (h3 0 (by decide)) rfl rfl ?_
    refine j_sipush (v := 1632) dX12_offers_7 (by decide) ?_
    refine j_iald dX12_offers_10 (h3 1 (by decide)) rfl (by unfold vp_in; decide) ?_
    refine j_icmp_ge (tgt := 210) dX12_offers_11 (by decide) (fun hc => ?_) (fun hc => ?_)
    · replace h := h.1 hc
      exact j_vret dX12_offers_210 rfl ⟨rfl, h⟩
    · replace h := h.2 hc
      refine j_aload_n 0 dX12_offers_14 rfl ?_
      refine j_getR (b := (3, 0, 1)) dX12_offers_15 fsRX12_7 (h3 0 (by decide)) rfl rfl ?_
      refine j_sipush (v := 1504) dX12_offers_18 (by decide) ?_
      refine j_iload_n 1 dX12_offers_21 rfl ?_
      refine j_iadd dX12_offers_22 ?_
      obtain ⟨hq, h⟩ := h
      refine j_iald dX12_offers_23 (h3 1 (by decide)) rfl hq ?_
      refine j_if_eq (tgt := 30) dX12_offers_24 (by decide) (fun hc => ?_) (fun hc => ?_)
      · replace h := h.1 hc
        refine j_iconst (v := (-1)) dX12_offers_30 (by decide) ?_
        refine j_istore_n dX12_offers_31 (by decide) rfl ?_
        refine j_lconst (v := 0) dX12_offers_32 (by decide) ?_
        refine j_lstore_n dX12_offers_33 (by decide) rfl ?_
        refine j_iconst (v := 0) dX12_offers_34 (by decide) ?_
        refine j_istore dX12_offers_35 (by decide) rfl ?_
        refine j_sub [3, 4, 2, 1, 0] rfl ?_
        obtain ⟨n, h⟩ := h
        exact k_X12_offers_p37 h3 zih n _ _ _ _ _ _ h
      · replace h := h.2 hc
        refine j_goto (tgt := 204) dX12_offers_27 (by decide) ?_
        refine j_iinc 1 dX12_offers_204 rfl rfl (by decide) rfl ?_
        refine j_goto (tgt := 2) dX12_offers_207 (by decide) ?_
        refine j_sub [1, 0] rfl ?_
        exact zih _ _ _ h
def w_X12_offers (M : am_I) (N : am_N) (post : am_I → am_N → Prop) : Prop :=
  ∃ n, w_X12_offers_p2 post n 0 M N
set_option maxRecDepth 10000 in
theorem k_X12_offers {d : Nat} {dm : List am_C} (h3 : am_d3 dm) {M : am_I} {N : am_N} {post : am_I → am_N → Prop} (h : w_X12_offers M N post) : jg (d + 5) mX12_offers dm 0 [(0, .inr (.inr (3, 0, 0)))] [] M N (am_pv post) := by
  refine j_iconst (v := 0) dX12_offers_0 (by decide) ?_
  refine j_istore_n dX12_offers_1 (by decide) rfl ?_
  refine j_sub [1, 0] rfl ?_
  obtain ⟨n, h⟩ := h
  exact k_X12_offers_p2 h3 n _ _ _ h
def w_X12_gives (a1 : Int32) (M : am_I) (N : am_N) (post : am_I → am_N → Prop) : Prop :=
  vp_in a1 8 ∧ vp_in (968 + a1) 1635 ∧ w_J9_min_7cf53 (M (3, 0, 15) a1.toNatClampNeg) ((M (3, 0, 1) (968 + a1).toNatClampNeg) + 10) M N (fun zr1 zM2 zN3 => vp_in (968 + a1) 1635 ∧ vp_in (968 + a1) 1635 ∧ vp_in a1 8 ∧ ((¬ ((am_u zM2 (3, 0, 1) (968 + a1).toNatClampNeg zr1) (3, 0, 1) (968 + a1).toNatClampNeg) = ((am_u zM2 (3, 0, 1) (968 + a1).toNatClampNeg zr1) (3, 0, 15) a1.toNatClampNeg) → vp_in (976 + a1) 1635 ∧ post (am_u (am_u zM2 (3, 0, 1) (968 + a1).toNatClampNeg zr1) (3, 0, 1) (976 + a1).toNatClampNeg 3) zN3) ∧ (((am_u zM2 (3, 0, 1) (968 + a1).toNatClampNeg zr1) (3, 0, 1) (968 + a1).toNatClampNeg) = ((am_u zM2 (3, 0, 1) (968 + a1).toNatClampNeg zr1) (3, 0, 15) a1.toNatClampNeg) → vp_in (976 + a1) 1635 ∧ post (am_u (am_u zM2 (3, 0, 1) (968 + a1).toNatClampNeg zr1) (3, 0, 1) (976 + a1).toNatClampNeg 0) zN3)))
set_option maxRecDepth 10000 in
theorem k_X12_gives {d : Nat} {dm : List am_C} (h3 : am_d3 dm) {a1 : Int32} {M : am_I} {N : am_N} {post : am_I → am_N → Prop} (h : w_X12_gives a1 M N post) : jg (d + 2) mX12_gives dm 0 [(0, .inr (.inr (3, 0, 0))), (1, .inl a1)] [] M N (am_pv post) := by
  refine j_aload_n 0 dX12_gives_0 rfl ?_
  refine j_getR (b := (3, 0, 1)) dX12_gives_1 fsRX12_7 (h3 0 (by decide)) rfl rfl ?_
  refine j_sipush (v := 968) dX12_gives_4 (by decide) ?_
  refine j_iload_n 1 dX12_gives_7 rfl ?_
  refine j_iadd dX12_gives_8 ?_
  refine j_aload_n 0 dX12_gives_9 rfl ?_
  refine j_getR (b := (3, 0, 15)) dX12_gives_10 fsRX12_52 (h3 0 (by decide)) rfl rfl ?_
  refine j_iload_n 1 dX12_gives_13 rfl ?_
  obtain ⟨hq, h⟩ := h
  refine j_iald dX12_gives_14 (h3 15 (by decide)) rfl hq ?_
  refine j_aload_n 0 dX12_gives_15 rfl ?_
  refine j_getR (b := (3, 0, 1)) dX12_gives_16 fsRX12_7 (h3 0 (by decide)) rfl rfl ?_
  refine j_sipush (v := 968) dX12_gives_19 (by decide) ?_
  refine j_iload_n 1 dX12_gives_22 rfl ?_
  refine j_iadd dX12_gives_23 ?_
  obtain ⟨hq, h⟩ := h
  refine j_iald dX12_gives_24 (h3 1 (by decide)) rfl hq ?_
  refine j_bipush (v := 10) dX12_gives_25 (by decide) ?_
  refine j_iadd dX12_gives_27 ?_
  refine j_invS (As := [.inl (M (3, 0, 15) a1.toNatClampNeg), .inl ((M (3, 0, 1) (968 + a1).toNatClampNeg) + 10)]) dX12_gives_28 msRX12_276 mbJ9_min_7cf53 rfl rfl (Nat.le_of_ble_eq_true rfl) (Nat.le_of_ble_eq_true rfl) (by omega) (k_J9_min_7cf53 (d := d + 0)  h) ?_
  rintro _ zM2 zN3 ⟨zr1, rfl, h⟩
  obtain ⟨hq, h⟩ := h
  refine j_iast dX12_gives_31 (h3 1 (by decide)) rfl hq ?_
  refine j_aload_n 0 dX12_gives_32 rfl ?_
  refine j_getR (b := (3, 0, 1)) dX12_gives_33 fsRX12_7 (h3 0 (by decide)) rfl rfl ?_
  refine j_sipush (v := 976) dX12_gives_36 (by decide) ?_
  refine j_iload_n 1 dX12_gives_39 rfl ?_
  refine j_iadd dX12_gives_40 ?_
  refine j_aload_n 0 dX12_gives_41 rfl ?_
  refine j_getR (b := (3, 0, 1)) dX12_gives_42 fsRX12_7 (h3 0 (by decide)) rfl rfl ?_
  refine j_sipush (v := 968) dX12_gives_45 (by decide) ?_
  refine j_iload_n 1 dX12_gives_48 rfl ?_
  refine j_iadd dX12_gives_49 ?_
  obtain ⟨hq, h⟩ := h
  refine j_iald dX12_gives_50 (h3 1 (by decide)) rfl hq ?_
  refine j_aload_n 0 dX12_gives_51 rfl ?_
  refine j_getR (b := (3, 0, 15)) dX12_gives_52 fsRX12_52 (h3 0 (by decide)) rfl rfl ?_
  refine j_iload_n 1 dX12_gives_55 rfl ?_
  obtain ⟨hq, h⟩ := h
  refine j_iald dX12_gives_56 (h3 15 (by decide)) rfl hq ?_
  refine j_icmp_ne (tgt := 64) dX12_gives_57 (by decide) (fun hc => ?_) (fun hc => ?_)
  · replace h := h.1 hc
    refine j_iconst (v := 3) dX12_gives_64 (by decide) ?_
    obtain ⟨hq, h⟩ := h
    refine j_iast dX12_gives_65 (h3 1 (by decide)) rfl hq ?_
    exact j_vret dX12_gives_66 rfl ⟨rfl, h⟩
  · replace h := h.2 hc
    refine j_iconst (v := 0) dX12_gives_60 (by decide) ?_
    refine j_goto (tgt := 65) dX12_gives_61 (by decide) ?_
    obtain ⟨hq, h⟩ := h
    refine j_iast dX12_gives_65 (h3 1 (by decide)) rfl hq ?_
    exact j_vret dX12_gives_66 rfl ⟨rfl, h⟩
def w_X12_works_p139 (post : am_I → am_N → Prop) (l1 : Int32) (l2 : Int32) (M : am_I) (N : am_N) : Prop :=
  vp_in (1504 + l2) 1635 ∧ vp_in (984 + l1) 1635 ∧ vp_in (976 + l1) 1635 ∧ post (am_u (am_u (am_u M (3, 0, 1) (1504 + l2).toNatClampNeg 2) (3, 0, 1) (984 + l1).toNatClampNeg (-1)) (3, 0, 1) (976 + l1).toNatClampNeg 0) N
set_option maxRecDepth 10000 in
theorem k_X12_works_p139 {d : Nat} {dm : List am_C} (h3 : am_d3 dm) {post : am_I → am_N → Prop} (l1 : Int32) (l2 : Int32) (M : am_I) (N : am_N) (h : w_X12_works_p139 post l1 l2 M N) : jg (d + 2) mX12_works dm 139 [(0, .inr (.inr (3, 0, 0))), (1, .inl l1), (2, .inl l2)] [] M N (am_pv post) := by
  refine j_aload_n 0 dX12_works_139 rfl ?_
  refine j_getR (b := (3, 0, 1)) dX12_works_140 fsRX12_7 (h3 0 (by decide)) rfl rfl ?_
  refine j_sipush (v := 1504) dX12_works_143 (by decide) ?_
  refine j_iload_n 2 dX12_works_146 rfl ?_
  refine j_iadd dX12_works_147 ?_
  refine j_iconst (v := 2) dX12_works_148 (by decide) ?_
  obtain ⟨hq, h⟩ := h
  refine j_iast dX12_works_149 (h3 1 (by decide)) rfl hq ?_
  refine j_aload_n 0 dX12_works_150 rfl ?_
  refine j_getR (b := (3, 0, 1)) dX12_works_151 fsRX12_7 (h3 0 (by decide)) rfl rfl ?_
  refine j_sipush (v := 984) dX12_works_154 (by decide) ?_
  refine j_iload_n 1 dX12_works_157 rfl ?_
  refine j_iadd dX12_works_158 ?_
  refine j_iconst (v := (-1)) dX12_works_159 (by decide) ?_
  obtain ⟨hq, h⟩ := h
  refine j_iast dX12_works_160 (h3 1 (by decide)) rfl hq ?_
  refine j_aload_n 0 dX12_works_161 rfl ?_
  refine j_getR (b := (3, 0, 1)) dX12_works_162 fsRX12_7 (h3 0 (by decide)) rfl rfl ?_
  refine j_sipush (v := 976) dX12_works_165 (by decide) ?_
  refine j_iload_n 1 dX12_works_168 rfl ?_
  refine j_iadd dX12_works_169 ?_
  refine j_iconst (v := 0) dX12_works_170 (by decide) ?_
  obtain ⟨hq, h⟩ := h
  refine j_iast dX12_works_171 (h3 1 (by decide)) rfl hq ?_
  exact j_vret dX12_works_172 rfl ⟨rfl, h⟩
def w_X12_works (a1 : Int32) (M : am_I) (N : am_N) (post : am_I → am_N → Prop) : Prop :=
  vp_in (984 + a1) 1635 ∧ ∀ zv1 : Int32, zv1 = M (3, 0, 1) (984 + a1).toNatClampNeg → vp_in zv1 60 ∧ ∀ zv2 : Int32, zv2 = M (3, 0, 17) zv1.toNatClampNeg → vp_in zv1 60 ∧ (((M (3, 0, 16) zv1.toNatClampNeg) = 0 → vp_in (512 + zv2) 1635 ∧ w_X12_seen zv2 (M (3, 0, 1) (512 + zv2).toNatClampNeg) M N (fun zM3 zN4 => w_X12_works_p139 post a1 zv1 zM3 zN4)) ∧ ((M (3, 0, 16) zv1.toNatClampNeg) = 1 → vp_in (192 + zv2) 1635 ∧ ((¬ (M (3, 0, 1) (192 + zv2).toNatClampNeg) = 1 → w_X12_works_p139 post a1 zv1 M N) ∧ ((M (3, 0, 1) (192 + zv2).toNatClampNeg) = 1 → w_X12_dies zv2 2 M N (fun zM5 zN6 => w_X12_works_p139 post a1 zv1 zM5 zN6)))) ∧ ((M (3, 0, 16) zv1.toNatClampNeg) = 2 → vp_in (448 + zv2) 1635 ∧ vp_in (192 + zv2) 1635 ∧ ((¬ (M (3, 0, 1) (192 + zv2).toNatClampNeg) = 1 → vp_in (448 + zv2) 1635 ∧ w_X12_works_p139 post a1 zv1 (am_u M (3, 0, 1) (448 + zv2).toNatClampNeg ((M (3, 0, 1) (448 + zv2).toNatClampNeg) + 0)) N) ∧ ((M (3, 0, 1) (192 + zv2).toNatClampNeg) = 1 → vp_in zv1 60 ∧ vp_in (448 + zv2) 1635 ∧ w_X12_works_p139 post a1 zv1 (am_u M (3, 0, 1) (448 + zv2).toNatClampNeg ((M (3, 0, 1) (448 + zv2).toNatClampNeg) + (M (3, 0, 18) zv1.toNatClampNeg))) N))) ∧ (¬ (M (3, 0, 16) zv1.toNatClampNeg) = 0 → ¬ (M (3, 0, 16) zv1.toNatClampNeg) = 1 → ¬ (M (3, 0, 16) zv1.toNatClampNeg) = 2 → w_X12_pulls a1 zv2 M N (fun zM7 zN8 => w_X12_works_p139 post a1 zv1 zM7 zN8)))
set_option maxRecDepth 10000 in
theorem k_X12_works {d : Nat} {dm : List am_C} (h3 : am_d3 dm) {a1 : Int32} {M : am_I} {N : am_N} {post : am_I → am_N → Prop} (h : w_X12_works a1 M N post) : jg (d + 2) mX12_works dm 0 [(0, .inr (.inr (3, 0, 0))), (1, .inl a1)] [] M N (am_pv post) := by
  refine j_aload_n 0 dX12_works_0 rfl ?_
  refine j_getR (b := (3, 0, 1)) dX12_works_1 fsRX12_7 (h3 0 (by decide)) rfl rfl ?_
  refine j_sipush (v := 984) dX12_works_4 (by decide) ?_
  refine j_iload_n 1 dX12_works_7 rfl ?_
  refine j_iadd dX12_works_8 ?_
  obtain ⟨hq, h⟩ := h
  refine j_iald dX12_works_9 (h3 1 (by decide)) rfl hq ?_
  refine j_topi (fun zv1 hzv1 => ?_)
  replace h := h zv1 hzv1
  refine j_istore_n dX12_works_10 (by decide) rfl ?_
  refine j_aload_n 1 dX12_works_11 rfl ?_
  refine j_getR (b := (3, 0, 17)) dX12_works_12 fsRX12_58 (h3 0 (by decide)) rfl rfl ?_
  refine j_iload_n 0 dX12_works_15 rfl ?_
  obtain ⟨hq, h⟩ := h
  refine j_iald dX12_works_16 (h3 17 (by decide)) rfl hq ?_
  refine j_topi (fun zv2 hzv2 => ?_)
  replace h := h zv2 hzv2
  refine j_istore_n dX12_works_17 (by decide) rfl ?_
  refine j_aload_n 2 dX12_works_18 rfl ?_
  refine j_getR (b := (3, 0, 16)) dX12_works_19 fsRX12_55 (h3 0 (by decide)) rfl rfl ?_
  refine j_iload_n 1 dX12_works_22 rfl ?_
  obtain ⟨hq, h⟩ := h
  refine j_iald dX12_works_23 (h3 16 (by decide)) rfl hq ?_
  by_cases hs0 : (M (3, 0, 16) zv1.toNatClampNeg) = 0
  · replace h := h.1 hs0
    refine j_tabK (k := 0) (tgt := 52) (off := 28) dX12_works_24 hs0 (by decide) (by decide) (by decide) (by decide) ?_
    refine j_aload_n 2 dX12_works_52 rfl ?_
    refine j_iload_n 0 dX12_works_53 rfl ?_
    refine j_aload_n 2 dX12_works_54 rfl ?_
    refine j_getR (b := (3, 0, 1)) dX12_works_55 fsRX12_7 (h3 0 (by decide)) rfl rfl ?_
    refine j_sipush (v := 512) dX12_works_58 (by decide) ?_
    refine j_iload_n 0 dX12_works_61 rfl ?_
    refine j_iadd dX12_works_62 ?_
    obtain ⟨hq, h⟩ := h
    refine j_iald dX12_works_63 (h3 1 (by decide)) rfl hq ?_
    refine j_invV (As := [.inl zv2, .inl (M (3, 0, 1) (512 + zv2).toNatClampNeg)]) dX12_works_64 msRX12_195 mbX12_seen rfl rfl (Nat.le_of_ble_eq_true rfl) (Nat.le_of_ble_eq_true rfl) (by omega) (h3 0 (by decide)) rfl rfl (k_X12_seen (d := d + 0) h3 h) ?_
    rintro _ zM3 zN4 ⟨rfl, h⟩
    refine j_goto (tgt := 139) dX12_works_67 (by decide) ?_
    refine j_sub [2, 3, 1] rfl ?_
    exact k_X12_works_p139 h3 _ _ _ _ h
  by_cases hs1 : (M (3, 0, 16) zv1.toNatClampNeg) = 1
  · replace h := h.2.1 hs1
    refine j_tabK (k := 1) (tgt := 70) (off := 46) dX12_works_24 hs1 (by decide) (by decide) (by decide) (by decide) ?_
    refine j_aload_n 2 dX12_works_70 rfl ?_
    refine j_getR (b := (3, 0, 1)) dX12_works_71 fsRX12_7 (h3 0 (by decide)) rfl rfl ?_
    refine j_sipush (v := 192) dX12_works_74 (by decide) ?_
    refine j_iload_n 0 dX12_works_77 rfl ?_
    refine j_iadd dX12_works_78 ?_
    obtain ⟨hq, h⟩ := h
    refine j_iald dX12_works_79 (h3 1 (by decide)) rfl hq ?_
    refine j_iconst (v := 1) dX12_works_80 (by decide) ?_
    refine j_icmp_ne (tgt := 139) dX12_works_81 (by decide) (fun hc => ?_) (fun hc => ?_)
    · replace h := h.1 hc
      refine j_sub [2, 3, 1] rfl ?_
      exact k_X12_works_p139 h3 _ _ _ _ h
    · replace h := h.2 hc
      refine j_aload_n 2 dX12_works_84 rfl ?_
      refine j_iload_n 0 dX12_works_85 rfl ?_
      refine j_iconst (v := 2) dX12_works_86 (by decide) ?_
      refine j_invV (As := [.inl zv2, .inl 2]) dX12_works_87 msRX12_278 mbX12_dies rfl rfl (Nat.le_of_ble_eq_true rfl) (Nat.le_of_ble_eq_true rfl) (by omega) (h3 0 (by decide)) rfl rfl (k_X12_dies (d := d + 0) h3 h) ?_
      rintro _ zM5 zN6 ⟨rfl, h⟩
      refine j_goto (tgt := 139) dX12_works_90 (by decide) ?_
      refine j_sub [2, 3, 1] rfl ?_
      exact k_X12_works_p139 h3 _ _ _ _ h
  by_cases hs2 : (M (3, 0, 16) zv1.toNatClampNeg) = 2
  · replace h := h.2.2.1 hs2
    refine j_tabK (k := 2) (tgt := 93) (off := 69) dX12_works_24 hs2 (by decide) (by decide) (by decide) (by decide) ?_
    refine j_aload_n 2 dX12_works_93 rfl ?_
    refine j_getR (b := (3, 0, 1)) dX12_works_94 fsRX12_7 (h3 0 (by decide)) rfl rfl ?_
    refine j_sipush (v := 448) dX12_works_97 (by decide) ?_
    refine j_iload_n 0 dX12_works_100 rfl ?_
    refine j_iadd dX12_works_101 ?_
    refine j_dup2 dX12_works_102 rfl rfl ?_
    obtain ⟨hq, h⟩ := h
    refine j_iald dX12_works_103 (h3 1 (by decide)) rfl hq ?_
    refine j_aload_n 2 dX12_works_104 rfl ?_
    refine j_getR (b := (3, 0, 1)) dX12_works_105 fsRX12_7 (h3 0 (by decide)) rfl rfl ?_
    refine j_sipush (v := 192) dX12_works_108 (by decide) ?_
    refine j_iload_n 0 dX12_works_111 rfl ?_
    refine j_iadd dX12_works_112 ?_
    obtain ⟨hq, h⟩ := h
    refine j_iald dX12_works_113 (h3 1 (by decide)) rfl hq ?_
    refine j_iconst (v := 1) dX12_works_114 (by decide) ?_
    refine j_icmp_ne (tgt := 127) dX12_works_115 (by decide) (fun hc => ?_) (fun hc => ?_)
    · replace h := h.1 hc
      refine j_iconst (v := 0) dX12_works_127 (by decide) ?_
      refine j_iadd dX12_works_128 ?_
      obtain ⟨hq, h⟩ := h
      refine j_iast dX12_works_129 (h3 1 (by decide)) rfl hq ?_
      refine j_goto (tgt := 139) dX12_works_130 (by decide) ?_
      refine j_sub [2, 3, 1] rfl ?_
      exact k_X12_works_p139 h3 _ _ _ _ h
    · replace h := h.2 hc
      refine j_aload_n 2 dX12_works_118 rfl ?_
      refine j_getR (b := (3, 0, 18)) dX12_works_119 fsRX12_61 (h3 0 (by decide)) rfl rfl ?_
      refine j_iload_n 1 dX12_works_122 rfl ?_
      obtain ⟨hq, h⟩ := h
      refine j_iald dX12_works_123 (h3 18 (by decide)) rfl hq ?_
      refine j_goto (tgt := 128) dX12_works_124 (by decide) ?_
      refine j_iadd dX12_works_128 ?_
      obtain ⟨hq, h⟩ := h
      refine j_iast dX12_works_129 (h3 1 (by decide)) rfl hq ?_
      refine j_goto (tgt := 139) dX12_works_130 (by decide) ?_
      refine j_sub [2, 3, 1] rfl ?_
      exact k_X12_works_p139 h3 _ _ _ _ h
  replace h := h.2.2.2 hs0 hs1 hs2
  refine j_tableOut (tgt := 133) dX12_works_24 (am_sw0 (n := 2) (fun k hk => match k, hk with | 0, _ => hs0 | 1, _ => hs1 | 2, _ => hs2 | k + 3, hk => absurd hk (by omega))) (by decide) ?_
  refine j_aload_n 2 dX12_works_133 rfl ?_
  refine j_iload_n 3 dX12_works_134 rfl ?_
  refine j_iload_n 0 dX12_works_135 rfl ?_
  refine j_invV (As := [.inl a1, .inl zv2]) dX12_works_136 msRX12_281 mbX12_pulls rfl rfl (Nat.le_of_ble_eq_true rfl) (Nat.le_of_ble_eq_true rfl) (by omega) (h3 0 (by decide)) rfl rfl (k_X12_pulls (d := d + 0) h3 h) ?_
  rintro _ zM7 zN8 ⟨rfl, h⟩
  refine j_sub [2, 3, 1] rfl ?_
  exact k_X12_works_p139 h3 _ _ _ _ h
def w_X12_enters_p122_b (post : am_I → am_N → Prop) (zk122 : Int32 → Int32 → am_I → am_N → Prop) (l2 : Int32) (l3 : Int32) (M : am_I) (N : am_N) : Prop :=
  (((M (3, 0, 1) 1631) ≤ l3 → post M N) ∧ (¬ (M (3, 0, 1) 1631) ≤ l3 → w_X12_isBut 1 l3 M N (fun zr1 zM2 zN3 => ((¬ zr1 = 0 → zk122 l2 (l3 + 1) zM2 zN3) ∧ (zr1 = 0 → vp_in (960 + l3) 1635 ∧ w_X12_far (zM2 (3, 0, 1) (960 + l3).toNatClampNeg) l2 zM2 zN3 (fun zr4 zM5 zN6 => (((zM5 (3, 0, 1) 1629) < zr4 → zk122 l2 (l3 + 1) zM5 zN6) ∧ (¬ (zM5 (3, 0, 1) 1629) < zr4 → vp_in ((992 + (64 * l3)) + l2) 1635 ∧ zk122 l2 (l3 + 1) (am_u zM5 (3, 0, 1) ((992 + (64 * l3)) + l2).toNatClampNeg 1) zN6))))))))
noncomputable def w_X12_enters_p122 (post : am_I → am_N → Prop) (n : Nat) : Int32 → Int32 → am_I → am_N → Prop :=
  Nat.rec (motive := fun _ => Int32 → Int32 → am_I → am_N → Prop) (fun _ _ _ _ => False) (fun _ zk => w_X12_enters_p122_b post zk) n
theorem w_X12_enters_p122_s (post : am_I → am_N → Prop) (n : Nat) (l2 : Int32) (l3 : Int32) (M : am_I) (N : am_N) : w_X12_enters_p122 post (n + 1) l2 l3 M N = w_X12_enters_p122_b post (w_X12_enters_p122 post n) l2 l3 M N := rfl
set_option maxRecDepth 10000 in
theorem k_X12_enters_p122 {d : Nat} {dm : List am_C} (h3 : am_d3 dm) {post : am_I → am_N → Prop} : ∀ (n : Nat) (l2 : Int32) (l3 : Int32) (M : am_I) (N : am_N), w_X12_enters_p122 post n l2 l3 M N → jg (d + 3) mX12_enters dm 122 [(0, .inr (.inr (3, 0, 0))), (2, .inl l2), (3, .inl l3)] [] M N (am_pv post) := by
  intro n
  induction n with
  | zero => intro l2 l3 M N h; exact h.elim
  | succ n zih =>
    intro l2 l3 M N h
    replace h : w_X12_enters_p122_b post (w_X12_enters_p122 post n) l2 l3 M N := h
    refine j_iload_n 2 dX12_enters_122 rfl ?_
    refine j_aload_n 0 dX12_enters_123 rfl ?_
    refine j_getR (b := (3, 0, 1)) dX12_enters_124 fsRX12_7 (h3 0 (by decide)) rfl rfl ?_
    refine j_sipush (v := 1631) dX12_enters_127 (by decide) ?_
    refine j_iald dX12_enters_130 (h3 1 (by decide)) rfl (by unfold vp_in; decide) ?_
    refine j_icmp_ge (tgt := 190) dX12_enters_131 (by decide) (fun hc => ?_) (fun hc => ?_)
    · replace h := h.1 hc
      exact j_vret dX12_enters_190 rfl ⟨rfl, h⟩
    · replace h := h.2 hc
      refine j_aload_n 0 dX12_enters_134 rfl ?_
      refine j_iconst (v := 1) dX12_enters_135 (by decide) ?_
      refine j_iload_n 2 dX12_enters_136 rfl ?_
      refine j_invV (As := [.inl 1, .inl l3]) dX12_enters_137 msRX12_188 mbX12_isBut rfl rfl (Nat.le_of_ble_eq_true rfl) (Nat.le_of_ble_eq_true rfl) (by omega) (h3 0 (by decide)) rfl rfl (k_X12_isBut (d := d + 1) h3 h) ?_
      rintro _ zM2 zN3 ⟨zr1, rfl, h⟩
      refine j_if_ne (tgt := 184) dX12_enters_140 (by decide) (fun hc => ?_) (fun hc => ?_)
      · replace h := h.1 hc
        refine j_iinc 2 dX12_enters_184 rfl rfl (by decide) rfl ?_
        refine j_goto (tgt := 122) dX12_enters_187 (by decide) ?_
        refine j_sub [1, 2, 0] rfl ?_
        exact zih _ _ _ _ h
      · replace h := h.2 hc
        refine j_aload_n 0 dX12_enters_143 rfl ?_
        refine j_getR (b := (3, 0, 1)) dX12_enters_144 fsRX12_7 (h3 0 (by decide)) rfl rfl ?_
        refine j_sipush (v := 960) dX12_enters_147 (by decide) ?_
        refine j_iload_n 2 dX12_enters_150 rfl ?_
        refine j_iadd dX12_enters_151 ?_
        obtain ⟨hq, h⟩ := h
        refine j_iald dX12_enters_152 (h3 1 (by decide)) rfl hq ?_
        refine j_iload_n 1 dX12_enters_153 rfl ?_
        refine j_invS (As := [.inl (zM2 (3, 0, 1) (960 + l3).toNatClampNeg), .inl l2]) dX12_enters_154 msRX12_245 mbX12_far rfl rfl (Nat.le_of_ble_eq_true rfl) (Nat.le_of_ble_eq_true rfl) (by omega) (k_X12_far (d := d + 0)  h) ?_
        rintro _ zM5 zN6 ⟨zr4, rfl, h⟩
        refine j_aload_n 0 dX12_enters_157 rfl ?_
        refine j_getR (b := (3, 0, 1)) dX12_enters_158 fsRX12_7 (h3 0 (by decide)) rfl rfl ?_
        refine j_sipush (v := 1629) dX12_enters_161 (by decide) ?_
        refine j_iald dX12_enters_164 (h3 1 (by decide)) rfl (by unfold vp_in; decide) ?_
        refine j_icmp_gt (tgt := 184) dX12_enters_165 (by decide) (fun hc => ?_) (fun hc => ?_)
        · replace h := h.1 hc
          refine j_iinc 2 dX12_enters_184 rfl rfl (by decide) rfl ?_
          refine j_goto (tgt := 122) dX12_enters_187 (by decide) ?_
          refine j_sub [1, 2, 0] rfl ?_
          exact zih _ _ _ _ h
        · replace h := h.2 hc
          refine j_aload_n 0 dX12_enters_168 rfl ?_
          refine j_getR (b := (3, 0, 1)) dX12_enters_169 fsRX12_7 (h3 0 (by decide)) rfl rfl ?_
          refine j_sipush (v := 992) dX12_enters_172 (by decide) ?_
          refine j_bipush (v := 64) dX12_enters_175 (by decide) ?_
          refine j_iload_n 2 dX12_enters_177 rfl ?_
          refine j_imul dX12_enters_178 ?_
          refine j_iadd dX12_enters_179 ?_
          refine j_iload_n 1 dX12_enters_180 rfl ?_
          refine j_iadd dX12_enters_181 ?_
          refine j_iconst (v := 1) dX12_enters_182 (by decide) ?_
          obtain ⟨hq, h⟩ := h
          refine j_iast dX12_enters_183 (h3 1 (by decide)) rfl hq ?_
          refine j_iinc 2 dX12_enters_184 rfl rfl (by decide) rfl ?_
          refine j_goto (tgt := 122) dX12_enters_187 (by decide) ?_
          refine j_sub [1, 2, 0] rfl ?_
          exact zih _ _ _ _ h
def w_X12_enters_p85 (post : am_I → am_N → Prop) (l1 : Int32) (l2 : Int32) (M : am_I) (N : am_N) : Prop :=
  vp_in (64 + l2) 1635 ∧ vp_in l1 8 ∧ (((M (3, 0, 13) l1.toNatClampNeg) < (M (3, 0, 1) (64 + l2).toNatClampNeg) → w_X12_drops l1 M N (fun zM1 zN2 => vp_in (976 + l1) 1635 ∧ ∃ n, w_X12_enters_p122 post n l2 0 (am_u zM1 (3, 0, 1) (976 + l1).toNatClampNeg 4) zN2)) ∧ (¬ (M (3, 0, 13) l1.toNatClampNeg) < (M (3, 0, 1) (64 + l2).toNatClampNeg) → post M N))
set_option maxRecDepth 10000 in
theorem k_X12_enters_p85 {d : Nat} {dm : List am_C} (h3 : am_d3 dm) {post : am_I → am_N → Prop} (l1 : Int32) (l2 : Int32) (M : am_I) (N : am_N) (h : w_X12_enters_p85 post l1 l2 M N) : jg (d + 3) mX12_enters dm 85 [(0, .inr (.inr (3, 0, 0))), (1, .inl l1), (2, .inl l2)] [] M N (am_pv post) := by
  refine j_aload_n 0 dX12_enters_85 rfl ?_
  refine j_getR (b := (3, 0, 1)) dX12_enters_86 fsRX12_7 (h3 0 (by decide)) rfl rfl ?_
  refine j_bipush (v := 64) dX12_enters_89 (by decide) ?_
  refine j_iload_n 2 dX12_enters_91 rfl ?_
  refine j_iadd dX12_enters_92 ?_
  obtain ⟨hq, h⟩ := h
  refine j_iald dX12_enters_93 (h3 1 (by decide)) rfl hq ?_
  refine j_aload_n 0 dX12_enters_94 rfl ?_
  refine j_getR (b := (3, 0, 13)) dX12_enters_95 fsRX12_46 (h3 0 (by decide)) rfl rfl ?_
  refine j_iload_n 1 dX12_enters_98 rfl ?_
  obtain ⟨hq, h⟩ := h
  refine j_iald dX12_enters_99 (h3 13 (by decide)) rfl hq ?_
  refine j_icmp_gt (tgt := 104) dX12_enters_100 (by decide) (fun hc => ?_) (fun hc => ?_)
  · replace h := h.1 hc
    refine j_aload_n 0 dX12_enters_104 rfl ?_
    refine j_iload_n 1 dX12_enters_105 rfl ?_
    refine j_invV (As := [.inl l1]) dX12_enters_106 msRX12_289 mbX12_drops rfl rfl (Nat.le_of_ble_eq_true rfl) (Nat.le_of_ble_eq_true rfl) (by omega) (h3 0 (by decide)) rfl rfl (k_X12_drops (d := d + 1) h3 h) ?_
    rintro _ zM1 zN2 ⟨rfl, h⟩
    refine j_aload_n 0 dX12_enters_109 rfl ?_
    refine j_getR (b := (3, 0, 1)) dX12_enters_110 fsRX12_7 (h3 0 (by decide)) rfl rfl ?_
    refine j_sipush (v := 976) dX12_enters_113 (by decide) ?_
    refine j_iload_n 1 dX12_enters_116 rfl ?_
    refine j_iadd dX12_enters_117 ?_
    refine j_iconst (v := 4) dX12_enters_118 (by decide) ?_
    obtain ⟨hq, h⟩ := h
    refine j_iast dX12_enters_119 (h3 1 (by decide)) rfl hq ?_
    refine j_iconst (v := 0) dX12_enters_120 (by decide) ?_
    refine j_istore_n dX12_enters_121 (by decide) rfl ?_
    refine j_sub [1, 3, 0] rfl ?_
    obtain ⟨n, h⟩ := h
    exact k_X12_enters_p122 h3 n _ _ _ _ h
  · replace h := h.2 hc
    exact j_vret dX12_enters_103 rfl ⟨rfl, h⟩
def w_X12_enters (a1 : Int32) (a2 : Int32) (M : am_I) (N : am_N) (post : am_I → am_N → Prop) : Prop :=
  vp_in (968 + a1) 1635 ∧ vp_in (968 + a1) 1635 ∧ vp_in (960 + a1) 1635 ∧ vp_in (128 + a2) 1635 ∧ w_X12_heavy a1 a2 (am_u (am_u M (3, 0, 1) (968 + a1).toNatClampNeg ((M (3, 0, 1) (968 + a1).toNatClampNeg) - 1)) (3, 0, 1) (960 + a1).toNatClampNeg a2) N (fun zr1 zM2 zN3 => vp_in (128 + a2) 1635 ∧ vp_in (192 + a2) 1635 ∧ ((¬ ((am_u zM2 (3, 0, 1) (128 + a2).toNatClampNeg (((am_u (am_u M (3, 0, 1) (968 + a1).toNatClampNeg ((M (3, 0, 1) (968 + a1).toNatClampNeg) - 1)) (3, 0, 1) (960 + a1).toNatClampNeg a2) (3, 0, 1) (128 + a2).toNatClampNeg) + zr1)) (3, 0, 1) (192 + a2).toNatClampNeg) = 1 → w_X12_enters_p85 post a1 a2 (am_u zM2 (3, 0, 1) (128 + a2).toNatClampNeg (((am_u (am_u M (3, 0, 1) (968 + a1).toNatClampNeg ((M (3, 0, 1) (968 + a1).toNatClampNeg) - 1)) (3, 0, 1) (960 + a1).toNatClampNeg a2) (3, 0, 1) (128 + a2).toNatClampNeg) + zr1)) zN3) ∧ (((am_u zM2 (3, 0, 1) (128 + a2).toNatClampNeg (((am_u (am_u M (3, 0, 1) (968 + a1).toNatClampNeg ((M (3, 0, 1) (968 + a1).toNatClampNeg) - 1)) (3, 0, 1) (960 + a1).toNatClampNeg a2) (3, 0, 1) (128 + a2).toNatClampNeg) + zr1)) (3, 0, 1) (192 + a2).toNatClampNeg) = 1 → vp_in (128 + a2) 1635 ∧ ((((am_u zM2 (3, 0, 1) (128 + a2).toNatClampNeg (((am_u (am_u M (3, 0, 1) (968 + a1).toNatClampNeg ((M (3, 0, 1) (968 + a1).toNatClampNeg) - 1)) (3, 0, 1) (960 + a1).toNatClampNeg a2) (3, 0, 1) (128 + a2).toNatClampNeg) + zr1)) (3, 0, 1) (128 + a2).toNatClampNeg) ≤ ((am_u zM2 (3, 0, 1) (128 + a2).toNatClampNeg (((am_u (am_u M (3, 0, 1) (968 + a1).toNatClampNeg ((M (3, 0, 1) (968 + a1).toNatClampNeg) - 1)) (3, 0, 1) (960 + a1).toNatClampNeg a2) (3, 0, 1) (128 + a2).toNatClampNeg) + zr1)) (3, 0, 1) 1627) → w_X12_enters_p85 post a1 a2 (am_u zM2 (3, 0, 1) (128 + a2).toNatClampNeg (((am_u (am_u M (3, 0, 1) (968 + a1).toNatClampNeg ((M (3, 0, 1) (968 + a1).toNatClampNeg) - 1)) (3, 0, 1) (960 + a1).toNatClampNeg a2) (3, 0, 1) (128 + a2).toNatClampNeg) + zr1)) zN3) ∧ (¬ ((am_u zM2 (3, 0, 1) (128 + a2).toNatClampNeg (((am_u (am_u M (3, 0, 1) (968 + a1).toNatClampNeg ((M (3, 0, 1) (968 + a1).toNatClampNeg) - 1)) (3, 0, 1) (960 + a1).toNatClampNeg a2) (3, 0, 1) (128 + a2).toNatClampNeg) + zr1)) (3, 0, 1) (128 + a2).toNatClampNeg) ≤ ((am_u zM2 (3, 0, 1) (128 + a2).toNatClampNeg (((am_u (am_u M (3, 0, 1) (968 + a1).toNatClampNeg ((M (3, 0, 1) (968 + a1).toNatClampNeg) - 1)) (3, 0, 1) (960 + a1).toNatClampNeg a2) (3, 0, 1) (128 + a2).toNatClampNeg) + zr1)) (3, 0, 1) 1627) → w_X12_dies a2 3 (am_u zM2 (3, 0, 1) (128 + a2).toNatClampNeg (((am_u (am_u M (3, 0, 1) (968 + a1).toNatClampNeg ((M (3, 0, 1) (968 + a1).toNatClampNeg) - 1)) (3, 0, 1) (960 + a1).toNatClampNeg a2) (3, 0, 1) (128 + a2).toNatClampNeg) + zr1)) zN3 (fun zM4 zN5 => w_X12_enters_p85 post a1 a2 zM4 zN5))))))
set_option maxRecDepth 10000 in
theorem k_X12_enters {d : Nat} {dm : List am_C} (h3 : am_d3 dm) {a1 : Int32} {a2 : Int32} {M : am_I} {N : am_N} {post : am_I → am_N → Prop} (h : w_X12_enters a1 a2 M N post) : jg (d + 3) mX12_enters dm 0 [(0, .inr (.inr (3, 0, 0))), (1, .inl a1), (2, .inl a2)] [] M N (am_pv post) := by
  refine j_aload_n 0 dX12_enters_0 rfl ?_
  refine j_getR (b := (3, 0, 1)) dX12_enters_1 fsRX12_7 (h3 0 (by decide)) rfl rfl ?_
  refine j_sipush (v := 968) dX12_enters_4 (by decide) ?_
  refine j_iload_n 1 dX12_enters_7 rfl ?_
  refine j_iadd dX12_enters_8 ?_
  refine j_dup2 dX12_enters_9 rfl rfl ?_
  obtain ⟨hq, h⟩ := h
  refine j_iald dX12_enters_10 (h3 1 (by decide)) rfl hq ?_
  refine j_iconst (v := 1) dX12_enters_11 (by decide) ?_
  refine j_isub dX12_enters_12 ?_
  obtain ⟨hq, h⟩ := h
  refine j_iast dX12_enters_13 (h3 1 (by decide)) rfl hq ?_
  refine j_aload_n 0 dX12_enters_14 rfl ?_
  refine j_getR (b := (3, 0, 1)) dX12_enters_15 fsRX12_7 (h3 0 (by decide)) rfl rfl ?_
  refine j_sipush (v := 960) dX12_enters_18 (by decide) ?_
  refine j_iload_n 1 dX12_enters_21 rfl ?_
  refine j_iadd dX12_enters_22 ?_
  refine j_iload_n 2 dX12_enters_23 rfl ?_
  obtain ⟨hq, h⟩ := h
  refine j_iast dX12_enters_24 (h3 1 (by decide)) rfl hq ?_
  refine j_aload_n 0 dX12_enters_25 rfl ?_
  refine j_getR (b := (3, 0, 1)) dX12_enters_26 fsRX12_7 (h3 0 (by decide)) rfl rfl ?_
  refine j_sipush (v := 128) dX12_enters_29 (by decide) ?_
  refine j_iload_n 2 dX12_enters_32 rfl ?_
  refine j_iadd dX12_enters_33 ?_
  refine j_dup2 dX12_enters_34 rfl rfl ?_
  obtain ⟨hq, h⟩ := h
  refine j_iald dX12_enters_35 (h3 1 (by decide)) rfl hq ?_
  refine j_aload_n 0 dX12_enters_36 rfl ?_
  refine j_iload_n 1 dX12_enters_37 rfl ?_
  refine j_iload_n 2 dX12_enters_38 rfl ?_
  refine j_invV (As := [.inl a1, .inl a2]) dX12_enters_39 msRX12_241 mbX12_heavy rfl rfl (Nat.le_of_ble_eq_true rfl) (Nat.le_of_ble_eq_true rfl) (by omega) (h3 0 (by decide)) rfl rfl (k_X12_heavy (d := d + 1) h3 h) ?_
  rintro _ zM2 zN3 ⟨zr1, rfl, h⟩
  refine j_iadd dX12_enters_42 ?_
  obtain ⟨hq, h⟩ := h
  refine j_iast dX12_enters_43 (h3 1 (by decide)) rfl hq ?_
  refine j_aload_n 0 dX12_enters_44 rfl ?_
  refine j_getR (b := (3, 0, 1)) dX12_enters_45 fsRX12_7 (h3 0 (by decide)) rfl rfl ?_
  refine j_sipush (v := 192) dX12_enters_48 (by decide) ?_
  refine j_iload_n 2 dX12_enters_51 rfl ?_
  refine j_iadd dX12_enters_52 ?_
  obtain ⟨hq, h⟩ := h
  refine j_iald dX12_enters_53 (h3 1 (by decide)) rfl hq ?_
  refine j_iconst (v := 1) dX12_enters_54 (by decide) ?_
  refine j_icmp_ne (tgt := 85) dX12_enters_55 (by decide) (fun hc => ?_) (fun hc => ?_)
  · replace h := h.1 hc
    refine j_sub [0, 1, 2] rfl ?_
    exact k_X12_enters_p85 h3 _ _ _ _ h
  · replace h := h.2 hc
    refine j_aload_n 0 dX12_enters_58 rfl ?_
    refine j_getR (b := (3, 0, 1)) dX12_enters_59 fsRX12_7 (h3 0 (by decide)) rfl rfl ?_
    refine j_sipush (v := 128) dX12_enters_62 (by decide) ?_
    refine j_iload_n 2 dX12_enters_65 rfl ?_
    refine j_iadd dX12_enters_66 ?_
    obtain ⟨hq, h⟩ := h
    refine j_iald dX12_enters_67 (h3 1 (by decide)) rfl hq ?_
    refine j_aload_n 0 dX12_enters_68 rfl ?_
    refine j_getR (b := (3, 0, 1)) dX12_enters_69 fsRX12_7 (h3 0 (by decide)) rfl rfl ?_
    refine j_sipush (v := 1627) dX12_enters_72 (by decide) ?_
    refine j_iald dX12_enters_75 (h3 1 (by decide)) rfl (by unfold vp_in; decide) ?_
    refine j_icmp_le (tgt := 85) dX12_enters_76 (by decide) (fun hc => ?_) (fun hc => ?_)
    · replace h := h.1 hc
      refine j_sub [0, 1, 2] rfl ?_
      exact k_X12_enters_p85 h3 _ _ _ _ h
    · replace h := h.2 hc
      refine j_aload_n 0 dX12_enters_79 rfl ?_
      refine j_iload_n 2 dX12_enters_80 rfl ?_
      refine j_iconst (v := 3) dX12_enters_81 (by decide) ?_
      refine j_invV (As := [.inl a2, .inl 3]) dX12_enters_82 msRX12_278 mbX12_dies rfl rfl (Nat.le_of_ble_eq_true rfl) (Nat.le_of_ble_eq_true rfl) (by omega) (h3 0 (by decide)) rfl rfl (k_X12_dies (d := d + 1) h3 h) ?_
      rintro _ zM4 zN5 ⟨rfl, h⟩
      refine j_sub [0, 1, 2] rfl ?_
      exact k_X12_enters_p85 h3 _ _ _ _ h
def w_X12_ends_p283 (post : am_I → am_N → Prop) (zk241 : Int32 → am_I → am_N → Prop) (l1 : Int32) (M : am_I) (N : am_N) : Prop :=
  vp_in (256 + l1) 1635 ∧ vp_in (64 + l1) 1635 ∧ w_X12_isIn (M (3, 0, 1) (64 + l1).toNatClampNeg) 50 300 M N (fun zr1 zM2 zN3 => ((zr1 = 0 → vp_in (256 + l1) 1635 ∧ zk241 (l1 + 1) (am_u zM2 (3, 0, 1) (256 + l1).toNatClampNeg ((M (3, 0, 1) (256 + l1).toNatClampNeg) + 1)) zN3) ∧ (¬ zr1 = 0 → vp_in (256 + l1) 1635 ∧ zk241 (l1 + 1) (am_u zM2 (3, 0, 1) (256 + l1).toNatClampNeg ((M (3, 0, 1) (256 + l1).toNatClampNeg) + 2)) zN3)))
set_option maxRecDepth 10000 in
theorem k_X12_ends_p283 {d : Nat} {dm : List am_C} (h3 : am_d3 dm) {post : am_I → am_N → Prop} {zk241 : Int32 → am_I → am_N → Prop} (zhk241 : ∀ (l1 : Int32) (M : am_I) (N : am_N), zk241 l1 M N → jg (d + 2) mX12_ends dm 241 [(0, .inr (.inr (3, 0, 0))), (1, .inl l1)] [] M N (am_pv post)) (l1 : Int32) (M : am_I) (N : am_N) (h : w_X12_ends_p283 post zk241 l1 M N) : jg (d + 2) mX12_ends dm 283 [(0, .inr (.inr (3, 0, 0))), (1, .inl l1)] [] M N (am_pv post) := by
  refine j_aload_n 0 dX12_ends_283 rfl ?_
  refine j_getR (b := (3, 0, 1)) dX12_ends_284 fsRX12_7 (h3 0 (by decide)) rfl rfl ?_
  refine j_sipush (v := 256) dX12_ends_287 (by decide) ?_
  refine j_iload_n 1 dX12_ends_290 rfl ?_
  refine j_iadd dX12_ends_291 ?_
  refine j_dup2 dX12_ends_292 rfl rfl ?_
  obtain ⟨hq, h⟩ := h
  refine j_iald dX12_ends_293 (h3 1 (by decide)) rfl hq ?_
  refine j_aload_n 0 dX12_ends_294 rfl ?_
  refine j_getR (b := (3, 0, 1)) dX12_ends_295 fsRX12_7 (h3 0 (by decide)) rfl rfl ?_
  refine j_bipush (v := 64) dX12_ends_298 (by decide) ?_
  refine j_iload_n 1 dX12_ends_300 rfl ?_
  refine j_iadd dX12_ends_301 ?_
  obtain ⟨hq, h⟩ := h
  refine j_iald dX12_ends_302 (h3 1 (by decide)) rfl hq ?_
  refine j_bipush (v := 50) dX12_ends_303 (by decide) ?_
  refine j_sipush (v := 300) dX12_ends_305 (by decide) ?_
  refine j_invS (As := [.inl (M (3, 0, 1) (64 + l1).toNatClampNeg), .inl 50, .inl 300]) dX12_ends_308 msRX12_162 mbX12_isIn rfl rfl (Nat.le_of_ble_eq_true rfl) (Nat.le_of_ble_eq_true rfl) (by omega) (k_X12_isIn (d := d + 0)  h) ?_
  rintro _ zM2 zN3 ⟨zr1, rfl, h⟩
  refine j_if_eq (tgt := 318) dX12_ends_311 (by decide) (fun hc => ?_) (fun hc => ?_)
  · replace h := h.1 hc
    refine j_iconst (v := 1) dX12_ends_318 (by decide) ?_
    refine j_iadd dX12_ends_319 ?_
    obtain ⟨hq, h⟩ := h
    refine j_iast dX12_ends_320 (h3 1 (by decide)) rfl hq ?_
    refine j_iinc 1 dX12_ends_321 rfl rfl (by decide) rfl ?_
    refine j_goto (tgt := 241) dX12_ends_324 (by decide) ?_
    refine j_sub [1, 0] rfl ?_
    exact zhk241 _ _ _ h
  · replace h := h.2 hc
    refine j_iconst (v := 2) dX12_ends_314 (by decide) ?_
    refine j_goto (tgt := 319) dX12_ends_315 (by decide) ?_
    refine j_iadd dX12_ends_319 ?_
    obtain ⟨hq, h⟩ := h
    refine j_iast dX12_ends_320 (h3 1 (by decide)) rfl hq ?_
    refine j_iinc 1 dX12_ends_321 rfl rfl (by decide) rfl ?_
    refine j_goto (tgt := 241) dX12_ends_324 (by decide) ?_
    refine j_sub [1, 0] rfl ?_
    exact zhk241 _ _ _ h
def w_X12_ends_p241_b (post : am_I → am_N → Prop) (zk241 : Int32 → am_I → am_N → Prop) (l1 : Int32) (M : am_I) (N : am_N) : Prop :=
  ((64 ≤ l1 → post M N) ∧ (¬ 64 ≤ l1 → vp_in (192 + l1) 1635 ∧ ((¬ (M (3, 0, 1) (192 + l1).toNatClampNeg) = 0 → vp_in l1 64 ∧ (((M (3, 0, 28) l1.toNatClampNeg) = 0 → w_X12_ends_p283 post zk241 l1 M N) ∧ (¬ (M (3, 0, 28) l1.toNatClampNeg) = 0 → vp_in (320 + l1) 1635 ∧ w_X12_ends_p283 post zk241 l1 (am_u M (3, 0, 1) (320 + l1).toNatClampNeg 1) N))) ∧ ((M (3, 0, 1) (192 + l1).toNatClampNeg) = 0 → zk241 (l1 + 1) M N))))
noncomputable def w_X12_ends_p241 (post : am_I → am_N → Prop) (n : Nat) : Int32 → am_I → am_N → Prop :=
  Nat.rec (motive := fun _ => Int32 → am_I → am_N → Prop) (fun _ _ _ => False) (fun _ zk => w_X12_ends_p241_b post zk) n
theorem w_X12_ends_p241_s (post : am_I → am_N → Prop) (n : Nat) (l1 : Int32) (M : am_I) (N : am_N) : w_X12_ends_p241 post (n + 1) l1 M N = w_X12_ends_p241_b post (w_X12_ends_p241 post n) l1 M N := rfl
set_option maxRecDepth 10000 in
theorem k_X12_ends_p241 {d : Nat} {dm : List am_C} (h3 : am_d3 dm) {post : am_I → am_N → Prop} : ∀ (n : Nat) (l1 : Int32) (M : am_I) (N : am_N), w_X12_ends_p241 post n l1 M N → jg (d + 2) mX12_ends dm 241 [(0, .inr (.inr (3, 0, 0))), (1, .inl l1)] [] M N (am_pv post) := by
  intro n
  induction n with
  | zero => intro l1 M N h; exact h.elim
  | succ n zih =>
    intro l1 M N h
    replace h : w_X12_ends_p241_b post (w_X12_ends_p241 post n) l1 M N := h
    refine j_iload_n 1 dX12_ends_241 rfl ?_
    refine j_bipush (v := 64) dX12_ends_242 (by decide) ?_
    refine j_icmp_ge (tgt := 327) dX12_ends_244 (by decide) (fun hc => ?_) (fun hc => ?_)
    · replace h := h.1 hc
      exact j_vret dX12_ends_327 rfl ⟨rfl, h⟩
    · replace h := h.2 hc
      refine j_aload_n 0 dX12_ends_247 rfl ?_
      refine j_getR (b := (3, 0, 1)) dX12_ends_248 fsRX12_7 (h3 0 (by decide)) rfl rfl ?_
      refine j_sipush (v := 192) dX12_ends_251 (by decide) ?_
      refine j_iload_n 1 dX12_ends_254 rfl ?_
      refine j_iadd dX12_ends_255 ?_
      obtain ⟨hq, h⟩ := h
      refine j_iald dX12_ends_256 (h3 1 (by decide)) rfl hq ?_
      refine j_if_ne (tgt := 263) dX12_ends_257 (by decide) (fun hc => ?_) (fun hc => ?_)
      · replace h := h.1 hc
        refine j_aload_n 0 dX12_ends_263 rfl ?_
        refine j_getR (b := (3, 0, 28)) dX12_ends_264 fsRX12_97 (h3 0 (by decide)) rfl rfl ?_
        refine j_iload_n 1 dX12_ends_267 rfl ?_
        obtain ⟨hq, h⟩ := h
        refine j_zald dX12_ends_268 (h3 28 (by decide)) rfl hq ?_
        refine j_if_eq (tgt := 283) dX12_ends_269 (by decide) (fun hc => ?_) (fun hc => ?_)
        · replace h := h.1 hc
          refine j_sub [0, 1] rfl ?_
          exact k_X12_ends_p283 h3 zih _ _ _ h
        · replace h := h.2 hc
          refine j_aload_n 0 dX12_ends_272 rfl ?_
          refine j_getR (b := (3, 0, 1)) dX12_ends_273 fsRX12_7 (h3 0 (by decide)) rfl rfl ?_
          refine j_sipush (v := 320) dX12_ends_276 (by decide) ?_
          refine j_iload_n 1 dX12_ends_279 rfl ?_
          refine j_iadd dX12_ends_280 ?_
          refine j_iconst (v := 1) dX12_ends_281 (by decide) ?_
          obtain ⟨hq, h⟩ := h
          refine j_iast dX12_ends_282 (h3 1 (by decide)) rfl hq ?_
          refine j_sub [0, 1] rfl ?_
          exact k_X12_ends_p283 h3 zih _ _ _ h
      · replace h := h.2 hc
        refine j_goto (tgt := 321) dX12_ends_260 (by decide) ?_
        refine j_iinc 1 dX12_ends_321 rfl rfl (by decide) rfl ?_
        refine j_goto (tgt := 241) dX12_ends_324 (by decide) ?_
        refine j_sub [1, 0] rfl ?_
        exact zih _ _ _ h
def w_X12_ends_p144_b (post : am_I → am_N → Prop) (zk111 : Int32 → am_I → am_N → Prop) (zk144 : Int32 → Int32 → am_I → am_N → Prop) (l1 : Int32) (l2 : Int32) (M : am_I) (N : am_N) : Prop :=
  ((4 ≤ l2 → zk111 (l1 + 1) M N) ∧ (¬ 4 ≤ l2 → (((M (3, 0, 1) 1633) ≤ 0 → zk111 (l1 + 1) M N) ∧ (¬ (M (3, 0, 1) 1633) ≤ 0 → w_X12_beside l1 l2 M N (fun zr1 zM2 zN3 => ((zr1 = (-1) → zk144 l1 (l2 + 1) zM2 zN3) ∧ (¬ zr1 = (-1) → w_X12_beside l1 l2 zM2 zN3 (fun zr4 zM5 zN6 => vp_in zr4 64 ∧ (((zM5 (3, 0, 27) zr4.toNatClampNeg) = 0 → zk144 l1 (l2 + 1) zM5 zN6) ∧ (¬ (zM5 (3, 0, 27) zr4.toNatClampNeg) = 0 → w_X12_beside l1 l2 zM5 zN6 (fun zr7 zM8 zN9 => vp_in (192 + zr7) 1635 ∧ ((¬ (zM8 (3, 0, 1) (192 + zr7).toNatClampNeg) = 1 → zk144 l1 (l2 + 1) zM8 zN9) ∧ ((zM8 (3, 0, 1) (192 + zr7).toNatClampNeg) = 1 → w_X12_lotIsLow zM8 zN9 (fun zr10 zM11 zN12 => ((¬ zr10 = 0 → vp_in l1 64 ∧ zk144 l1 (l2 + 1) (am_u zM11 (3, 0, 28) l1.toNatClampNeg (vp_nar .boolean 1)) zN12) ∧ (zr10 = 0 → vp_in l1 64 ∧ (((zM11 (3, 0, 28) l1.toNatClampNeg) = 0 → vp_in l1 64 ∧ zk144 l1 (l2 + 1) (am_u zM11 (3, 0, 28) l1.toNatClampNeg (vp_nar .boolean 0)) zN12) ∧ (¬ (zM11 (3, 0, 28) l1.toNatClampNeg) = 0 → vp_in l1 64 ∧ zk144 l1 (l2 + 1) (am_u zM11 (3, 0, 28) l1.toNatClampNeg (vp_nar .boolean 1)) zN12))))))))))))))))))
noncomputable def w_X12_ends_p144 (post : am_I → am_N → Prop) (zk111 : Int32 → am_I → am_N → Prop) (n : Nat) : Int32 → Int32 → am_I → am_N → Prop :=
  Nat.rec (motive := fun _ => Int32 → Int32 → am_I → am_N → Prop) (fun _ _ _ _ => False) (fun _ zk => w_X12_ends_p144_b post zk111 zk) n
theorem w_X12_ends_p144_s (post : am_I → am_N → Prop) (zk111 : Int32 → am_I → am_N → Prop) (n : Nat) (l1 : Int32) (l2 : Int32) (M : am_I) (N : am_N) : w_X12_ends_p144 post zk111 (n + 1) l1 l2 M N = w_X12_ends_p144_b post zk111 (w_X12_ends_p144 post zk111 n) l1 l2 M N := rfl
set_option maxRecDepth 10000 in
theorem k_X12_ends_p144 {d : Nat} {dm : List am_C} (h3 : am_d3 dm) {post : am_I → am_N → Prop} {zk111 : Int32 → am_I → am_N → Prop} (zhk111 : ∀ (l1 : Int32) (M : am_I) (N : am_N), zk111 l1 M N → jg (d + 2) mX12_ends dm 111 [(0, .inr (.inr (3, 0, 0))), (1, .inl l1)] [] M N (am_pv post)) : ∀ (n : Nat) (l1 : Int32) (l2 : Int32) (M : am_I) (N : am_N), w_X12_ends_p144 post zk111 n l1 l2 M N → jg (d + 2) mX12_ends dm 144 [(0, .inr (.inr (3, 0, 0))), (1, .inl l1), (2, .inl l2)] [] M N (am_pv post) := by
  intro n
  induction n with
  | zero => intro l1 l2 M N h; exact h.elim
  | succ n zih =>
    intro l1 l2 M N h
    replace h : w_X12_ends_p144_b post zk111 (w_X12_ends_p144 post zk111 n) l1 l2 M N := h
    refine j_iload_n 2 dX12_ends_144 rfl ?_
    refine j_iconst (v := 4) dX12_ends_145 (by decide) ?_
    refine j_icmp_ge (tgt := 233) dX12_ends_146 (by decide) (fun hc => ?_) (fun hc => ?_)
    · replace h := h.1 hc
      refine j_iinc 1 dX12_ends_233 rfl rfl (by decide) rfl ?_
      refine j_goto (tgt := 111) dX12_ends_236 (by decide) ?_
      refine j_sub [1, 0] rfl ?_
      exact zhk111 _ _ _ h
    · replace h := h.2 hc
      refine j_aload_n 0 dX12_ends_149 rfl ?_
      refine j_getR (b := (3, 0, 1)) dX12_ends_150 fsRX12_7 (h3 0 (by decide)) rfl rfl ?_
      refine j_sipush (v := 1633) dX12_ends_153 (by decide) ?_
      refine j_iald dX12_ends_156 (h3 1 (by decide)) rfl (by unfold vp_in; decide) ?_
      refine j_if_le (tgt := 233) dX12_ends_157 (by decide) (fun hc => ?_) (fun hc => ?_)
      · replace h := h.1 hc
        refine j_iinc 1 dX12_ends_233 rfl rfl (by decide) rfl ?_
        refine j_goto (tgt := 111) dX12_ends_236 (by decide) ?_
        refine j_sub [1, 0] rfl ?_
        exact zhk111 _ _ _ h
      · replace h := h.2 hc
        refine j_iload_n 1 dX12_ends_160 rfl ?_
        refine j_iload_n 2 dX12_ends_161 rfl ?_
        refine j_invS (As := [.inl l1, .inl l2]) dX12_ends_162 msRX12_257 mbX12_beside rfl rfl (Nat.le_of_ble_eq_true rfl) (Nat.le_of_ble_eq_true rfl) (by omega) (k_X12_beside (d := d + 0)  h) ?_
        rintro _ zM2 zN3 ⟨zr1, rfl, h⟩
        refine j_iconst (v := (-1)) dX12_ends_165 (by decide) ?_
        refine j_icmp_eq (tgt := 227) dX12_ends_166 (by decide) (fun hc => ?_) (fun hc => ?_)
        · replace h := h.1 hc
          refine j_iinc 2 dX12_ends_227 rfl rfl (by decide) rfl ?_
          refine j_goto (tgt := 144) dX12_ends_230 (by decide) ?_
          refine j_sub [1, 2, 0] rfl ?_
          exact zih _ _ _ _ h
        · replace h := h.2 hc
          refine j_aload_n 0 dX12_ends_169 rfl ?_
          refine j_getR (b := (3, 0, 27)) dX12_ends_170 fsRX12_94 (h3 0 (by decide)) rfl rfl ?_
          refine j_iload_n 1 dX12_ends_173 rfl ?_
          refine j_iload_n 2 dX12_ends_174 rfl ?_
          refine j_invS (As := [.inl l1, .inl l2]) dX12_ends_175 msRX12_257 mbX12_beside rfl rfl (Nat.le_of_ble_eq_true rfl) (Nat.le_of_ble_eq_true rfl) (by omega) (k_X12_beside (d := d + 0)  h) ?_
          rintro _ zM5 zN6 ⟨zr4, rfl, h⟩
          obtain ⟨hq, h⟩ := h
          refine j_zald dX12_ends_178 (h3 27 (by decide)) rfl hq ?_
          refine j_if_eq (tgt := 227) dX12_ends_179 (by decide) (fun hc => ?_) (fun hc => ?_)
          · replace h := h.1 hc
            refine j_iinc 2 dX12_ends_227 rfl rfl (by decide) rfl ?_
            refine j_goto (tgt := 144) dX12_ends_230 (by decide) ?_
            refine j_sub [1, 2, 0] rfl ?_
            exact zih _ _ _ _ h
          · replace h := h.2 hc
            refine j_aload_n 0 dX12_ends_182 rfl ?_
            refine j_getR (b := (3, 0, 1)) dX12_ends_183 fsRX12_7 (h3 0 (by decide)) rfl rfl ?_
            refine j_sipush (v := 192) dX12_ends_186 (by decide) ?_
            refine j_iload_n 1 dX12_ends_189 rfl ?_
            refine j_iload_n 2 dX12_ends_190 rfl ?_
            refine j_invS (As := [.inl l1, .inl l2]) dX12_ends_191 msRX12_257 mbX12_beside rfl rfl (Nat.le_of_ble_eq_true rfl) (Nat.le_of_ble_eq_true rfl) (by omega) (k_X12_beside (d := d + 0)  h) ?_
            rintro _ zM8 zN9 ⟨zr7, rfl, h⟩
            refine j_iadd dX12_ends_194 ?_
            obtain ⟨hq, h⟩ := h
            refine j_iald dX12_ends_195 (h3 1 (by decide)) rfl hq ?_
            refine j_iconst (v := 1) dX12_ends_196 (by decide) ?_
            refine j_icmp_ne (tgt := 227) dX12_ends_197 (by decide) (fun hc => ?_) (fun hc => ?_)
            · replace h := h.1 hc
              refine j_iinc 2 dX12_ends_227 rfl rfl (by decide) rfl ?_
              refine j_goto (tgt := 144) dX12_ends_230 (by decide) ?_
              refine j_sub [1, 2, 0] rfl ?_
              exact zih _ _ _ _ h
            · replace h := h.2 hc
              refine j_aload_n 0 dX12_ends_200 rfl ?_
              refine j_getR (b := (3, 0, 28)) dX12_ends_201 fsRX12_97 (h3 0 (by decide)) rfl rfl ?_
              refine j_iload_n 1 dX12_ends_204 rfl ?_
              refine j_aload_n 0 dX12_ends_205 rfl ?_
              refine j_invV (As := []) dX12_ends_206 msRX12_298 mbX12_lotIsLow rfl rfl (Nat.le_of_ble_eq_true rfl) (Nat.le_of_ble_eq_true rfl) (by omega) (h3 0 (by decide)) rfl rfl (k_X12_lotIsLow (d := d + 0) h3 h) ?_
              rintro _ zM11 zN12 ⟨zr10, rfl, h⟩
              refine j_if_ne (tgt := 221) dX12_ends_209 (by decide) (fun hc => ?_) (fun hc => ?_)
              · replace h := h.1 hc
                refine j_iconst (v := 1) dX12_ends_221 (by decide) ?_
                refine j_goto (tgt := 226) dX12_ends_222 (by decide) ?_
                obtain ⟨hq, h⟩ := h
                refine j_zast dX12_ends_226 (h3 28 (by decide)) rfl hq ?_
                refine j_iinc 2 dX12_ends_227 rfl rfl (by decide) rfl ?_
                refine j_goto (tgt := 144) dX12_ends_230 (by decide) ?_
                refine j_sub [1, 2, 0] rfl ?_
                exact zih _ _ _ _ h
              · replace h := h.2 hc
                refine j_aload_n 0 dX12_ends_212 rfl ?_
                refine j_getR (b := (3, 0, 28)) dX12_ends_213 fsRX12_97 (h3 0 (by decide)) rfl rfl ?_
                refine j_iload_n 1 dX12_ends_216 rfl ?_
                obtain ⟨hq, h⟩ := h
                refine j_zald dX12_ends_217 (h3 28 (by decide)) rfl hq ?_
                refine j_if_eq (tgt := 225) dX12_ends_218 (by decide) (fun hc => ?_) (fun hc => ?_)
                · replace h := h.1 hc
                  refine j_iconst (v := 0) dX12_ends_225 (by decide) ?_
                  obtain ⟨hq, h⟩ := h
                  refine j_zast dX12_ends_226 (h3 28 (by decide)) rfl hq ?_
                  refine j_iinc 2 dX12_ends_227 rfl rfl (by decide) rfl ?_
                  refine j_goto (tgt := 144) dX12_ends_230 (by decide) ?_
                  refine j_sub [1, 2, 0] rfl ?_
                  exact zih _ _ _ _ h
                · replace h := h.2 hc
                  refine j_iconst (v := 1) dX12_ends_221 (by decide) ?_
                  refine j_goto (tgt := 226) dX12_ends_222 (by decide) ?_
                  obtain ⟨hq, h⟩ := h
                  refine j_zast dX12_ends_226 (h3 28 (by decide)) rfl hq ?_
                  refine j_iinc 2 dX12_ends_227 rfl rfl (by decide) rfl ?_
                  refine j_goto (tgt := 144) dX12_ends_230 (by decide) ?_
                  refine j_sub [1, 2, 0] rfl ?_
                  exact zih _ _ _ _ h
def w_X12_ends_p111_b (post : am_I → am_N → Prop) (zk111 : Int32 → am_I → am_N → Prop) (l1 : Int32) (M : am_I) (N : am_N) : Prop :=
  ((64 ≤ l1 → ∃ n, w_X12_ends_p241 post n 0 M N) ∧ (¬ 64 ≤ l1 → vp_in (192 + l1) 1635 ∧ (((M (3, 0, 1) (192 + l1).toNatClampNeg) = 0 → zk111 (l1 + 1) M N) ∧ (¬ (M (3, 0, 1) (192 + l1).toNatClampNeg) = 0 → vp_in l1 64 ∧ (((M (3, 0, 27) l1.toNatClampNeg) = 0 → ∃ n, w_X12_ends_p144 post zk111 n l1 0 M N) ∧ (¬ (M (3, 0, 27) l1.toNatClampNeg) = 0 → zk111 (l1 + 1) M N))))))
noncomputable def w_X12_ends_p111 (post : am_I → am_N → Prop) (n : Nat) : Int32 → am_I → am_N → Prop :=
  Nat.rec (motive := fun _ => Int32 → am_I → am_N → Prop) (fun _ _ _ => False) (fun _ zk => w_X12_ends_p111_b post zk) n
theorem w_X12_ends_p111_s (post : am_I → am_N → Prop) (n : Nat) (l1 : Int32) (M : am_I) (N : am_N) : w_X12_ends_p111 post (n + 1) l1 M N = w_X12_ends_p111_b post (w_X12_ends_p111 post n) l1 M N := rfl
set_option maxRecDepth 10000 in
theorem k_X12_ends_p111 {d : Nat} {dm : List am_C} (h3 : am_d3 dm) {post : am_I → am_N → Prop} : ∀ (n : Nat) (l1 : Int32) (M : am_I) (N : am_N), w_X12_ends_p111 post n l1 M N → jg (d + 2) mX12_ends dm 111 [(0, .inr (.inr (3, 0, 0))), (1, .inl l1)] [] M N (am_pv post) := by
  intro n
  induction n with
  | zero => intro l1 M N h; exact h.elim
  | succ n zih =>
    intro l1 M N h
    replace h : w_X12_ends_p111_b post (w_X12_ends_p111 post n) l1 M N := h
    refine j_iload_n 1 dX12_ends_111 rfl ?_
    refine j_bipush (v := 64) dX12_ends_112 (by decide) ?_
    refine j_icmp_ge (tgt := 239) dX12_ends_114 (by decide) (fun hc => ?_) (fun hc => ?_)
    · replace h := h.1 hc
      refine j_iconst (v := 0) dX12_ends_239 (by decide) ?_
      refine j_istore_n dX12_ends_240 (by decide) rfl ?_
      refine j_sub [1, 0] rfl ?_
      obtain ⟨n, h⟩ := h
      exact k_X12_ends_p241 h3 n _ _ _ h
    · replace h := h.2 hc
      refine j_aload_n 0 dX12_ends_117 rfl ?_
      refine j_getR (b := (3, 0, 1)) dX12_ends_118 fsRX12_7 (h3 0 (by decide)) rfl rfl ?_
      refine j_sipush (v := 192) dX12_ends_121 (by decide) ?_
      refine j_iload_n 1 dX12_ends_124 rfl ?_
      refine j_iadd dX12_ends_125 ?_
      obtain ⟨hq, h⟩ := h
      refine j_iald dX12_ends_126 (h3 1 (by decide)) rfl hq ?_
      refine j_if_eq (tgt := 233) dX12_ends_127 (by decide) (fun hc => ?_) (fun hc => ?_)
      · replace h := h.1 hc
        refine j_iinc 1 dX12_ends_233 rfl rfl (by decide) rfl ?_
        refine j_goto (tgt := 111) dX12_ends_236 (by decide) ?_
        refine j_sub [1, 0] rfl ?_
        exact zih _ _ _ h
      · replace h := h.2 hc
        refine j_aload_n 0 dX12_ends_130 rfl ?_
        refine j_getR (b := (3, 0, 27)) dX12_ends_131 fsRX12_94 (h3 0 (by decide)) rfl rfl ?_
        refine j_iload_n 1 dX12_ends_134 rfl ?_
        obtain ⟨hq, h⟩ := h
        refine j_zald dX12_ends_135 (h3 27 (by decide)) rfl hq ?_
        refine j_if_eq (tgt := 142) dX12_ends_136 (by decide) (fun hc => ?_) (fun hc => ?_)
        · replace h := h.1 hc
          refine j_iconst (v := 0) dX12_ends_142 (by decide) ?_
          refine j_istore_n dX12_ends_143 (by decide) rfl ?_
          refine j_sub [1, 2, 0] rfl ?_
          obtain ⟨n, h⟩ := h
          exact k_X12_ends_p144 h3 zih n _ _ _ _ h
        · replace h := h.2 hc
          refine j_goto (tgt := 233) dX12_ends_139 (by decide) ?_
          refine j_iinc 1 dX12_ends_233 rfl rfl (by decide) rfl ?_
          refine j_goto (tgt := 111) dX12_ends_236 (by decide) ?_
          refine j_sub [1, 0] rfl ?_
          exact zih _ _ _ h
def w_X12_ends_p62_b (post : am_I → am_N → Prop) (zk62 : Int32 → am_I → am_N → Prop) (l1 : Int32) (M : am_I) (N : am_N) : Prop :=
  ((64 ≤ l1 → ∃ n, w_X12_ends_p111 post n 0 M N) ∧ (¬ 64 ≤ l1 → vp_in (192 + l1) 1635 ∧ ((¬ (M (3, 0, 1) (192 + l1).toNatClampNeg) = 1 → zk62 (l1 + 1) M N) ∧ ((M (3, 0, 1) (192 + l1).toNatClampNeg) = 1 → vp_in (64 + l1) 1635 ∧ (((M (3, 0, 1) (64 + l1).toNatClampNeg) ≤ 600 → zk62 (l1 + 1) M N) ∧ (¬ (M (3, 0, 1) (64 + l1).toNatClampNeg) ≤ 600 → w_X12_dies l1 4 M N (fun zM1 zN2 => zk62 (l1 + 1) zM1 zN2)))))))
noncomputable def w_X12_ends_p62 (post : am_I → am_N → Prop) (n : Nat) : Int32 → am_I → am_N → Prop :=
  Nat.rec (motive := fun _ => Int32 → am_I → am_N → Prop) (fun _ _ _ => False) (fun _ zk => w_X12_ends_p62_b post zk) n
theorem w_X12_ends_p62_s (post : am_I → am_N → Prop) (n : Nat) (l1 : Int32) (M : am_I) (N : am_N) : w_X12_ends_p62 post (n + 1) l1 M N = w_X12_ends_p62_b post (w_X12_ends_p62 post n) l1 M N := rfl
set_option maxRecDepth 10000 in
theorem k_X12_ends_p62 {d : Nat} {dm : List am_C} (h3 : am_d3 dm) {post : am_I → am_N → Prop} : ∀ (n : Nat) (l1 : Int32) (M : am_I) (N : am_N), w_X12_ends_p62 post n l1 M N → jg (d + 2) mX12_ends dm 62 [(0, .inr (.inr (3, 0, 0))), (1, .inl l1)] [] M N (am_pv post) := by
  intro n
  induction n with
  | zero => intro l1 M N h; exact h.elim
  | succ n zih =>
    intro l1 M N h
    replace h : w_X12_ends_p62_b post (w_X12_ends_p62 post n) l1 M N := h
    refine j_iload_n 1 dX12_ends_62 rfl ?_
    refine j_bipush (v := 64) dX12_ends_63 (by decide) ?_
    refine j_icmp_ge (tgt := 109) dX12_ends_65 (by decide) (fun hc => ?_) (fun hc => ?_)
    · replace h := h.1 hc
      refine j_iconst (v := 0) dX12_ends_109 (by decide) ?_
      refine j_istore_n dX12_ends_110 (by decide) rfl ?_
      refine j_sub [1, 0] rfl ?_
      obtain ⟨n, h⟩ := h
      exact k_X12_ends_p111 h3 n _ _ _ h
    · replace h := h.2 hc
      refine j_aload_n 0 dX12_ends_68 rfl ?_
      refine j_getR (b := (3, 0, 1)) dX12_ends_69 fsRX12_7 (h3 0 (by decide)) rfl rfl ?_
      refine j_sipush (v := 192) dX12_ends_72 (by decide) ?_
      refine j_iload_n 1 dX12_ends_75 rfl ?_
      refine j_iadd dX12_ends_76 ?_
      obtain ⟨hq, h⟩ := h
      refine j_iald dX12_ends_77 (h3 1 (by decide)) rfl hq ?_
      refine j_iconst (v := 1) dX12_ends_78 (by decide) ?_
      refine j_icmp_ne (tgt := 103) dX12_ends_79 (by decide) (fun hc => ?_) (fun hc => ?_)
      · replace h := h.1 hc
        refine j_iinc 1 dX12_ends_103 rfl rfl (by decide) rfl ?_
        refine j_goto (tgt := 62) dX12_ends_106 (by decide) ?_
        refine j_sub [1, 0] rfl ?_
        exact zih _ _ _ h
      · replace h := h.2 hc
        refine j_aload_n 0 dX12_ends_82 rfl ?_
        refine j_getR (b := (3, 0, 1)) dX12_ends_83 fsRX12_7 (h3 0 (by decide)) rfl rfl ?_
        refine j_bipush (v := 64) dX12_ends_86 (by decide) ?_
        refine j_iload_n 1 dX12_ends_88 rfl ?_
        refine j_iadd dX12_ends_89 ?_
        obtain ⟨hq, h⟩ := h
        refine j_iald dX12_ends_90 (h3 1 (by decide)) rfl hq ?_
        refine j_sipush (v := 600) dX12_ends_91 (by decide) ?_
        refine j_icmp_le (tgt := 103) dX12_ends_94 (by decide) (fun hc => ?_) (fun hc => ?_)
        · replace h := h.1 hc
          refine j_iinc 1 dX12_ends_103 rfl rfl (by decide) rfl ?_
          refine j_goto (tgt := 62) dX12_ends_106 (by decide) ?_
          refine j_sub [1, 0] rfl ?_
          exact zih _ _ _ h
        · replace h := h.2 hc
          refine j_aload_n 0 dX12_ends_97 rfl ?_
          refine j_iload_n 1 dX12_ends_98 rfl ?_
          refine j_iconst (v := 4) dX12_ends_99 (by decide) ?_
          refine j_invV (As := [.inl l1, .inl 4]) dX12_ends_100 msRX12_278 mbX12_dies rfl rfl (Nat.le_of_ble_eq_true rfl) (Nat.le_of_ble_eq_true rfl) (by omega) (h3 0 (by decide)) rfl rfl (k_X12_dies (d := d + 0) h3 h) ?_
          rintro _ zM1 zN2 ⟨rfl, h⟩
          refine j_iinc 1 dX12_ends_103 rfl rfl (by decide) rfl ?_
          refine j_goto (tgt := 62) dX12_ends_106 (by decide) ?_
          refine j_sub [1, 0] rfl ?_
          exact zih _ _ _ h
def w_X12_ends_p46 (post : am_I → am_N → Prop) (zk2 : Int32 → am_I → am_N → Prop) (l1 : Int32) (s0 : Int32) (s1 : Int32) (M : am_I) (N : am_N) : Prop :=
  vp_in s1 64 ∧ vp_in l1 64 ∧ zk2 (l1 + 1) (am_u (am_u M (3, 0, 27) s1.toNatClampNeg (vp_nar .boolean s0)) (3, 0, 28) l1.toNatClampNeg (vp_nar .boolean 0)) N
set_option maxRecDepth 10000 in
theorem k_X12_ends_p46 {d : Nat} {dm : List am_C} (h3 : am_d3 dm) {post : am_I → am_N → Prop} {zk2 : Int32 → am_I → am_N → Prop} (zhk2 : ∀ (l1 : Int32) (M : am_I) (N : am_N), zk2 l1 M N → jg (d + 2) mX12_ends dm 2 [(0, .inr (.inr (3, 0, 0))), (1, .inl l1)] [] M N (am_pv post)) (l1 : Int32) (s0 : Int32) (s1 : Int32) (M : am_I) (N : am_N) (h : w_X12_ends_p46 post zk2 l1 s0 s1 M N) : jg (d + 2) mX12_ends dm 46 [(0, .inr (.inr (3, 0, 0))), (1, .inl l1)] [.inl s0, .inl s1, .inr (.inr (3, 0, 27))] M N (am_pv post) := by
  obtain ⟨hq, h⟩ := h
  refine j_zast dX12_ends_46 (h3 27 (by decide)) rfl hq ?_
  refine j_aload_n 0 dX12_ends_47 rfl ?_
  refine j_getR (b := (3, 0, 28)) dX12_ends_48 fsRX12_97 (h3 0 (by decide)) rfl rfl ?_
  refine j_iload_n 1 dX12_ends_51 rfl ?_
  refine j_iconst (v := 0) dX12_ends_52 (by decide) ?_
  obtain ⟨hq, h⟩ := h
  refine j_zast dX12_ends_53 (h3 28 (by decide)) rfl hq ?_
  refine j_iinc 1 dX12_ends_54 rfl rfl (by decide) rfl ?_
  refine j_goto (tgt := 2) dX12_ends_57 (by decide) ?_
  refine j_sub [1, 0] rfl ?_
  exact zhk2 _ _ _ h
def w_X12_ends_p2_b (post : am_I → am_N → Prop) (zk2 : Int32 → am_I → am_N → Prop) (l1 : Int32) (M : am_I) (N : am_N) : Prop :=
  ((64 ≤ l1 → ∃ n, w_X12_ends_p62 post n 0 M N) ∧ (¬ 64 ≤ l1 → vp_in (192 + l1) 1635 ∧ ((¬ (M (3, 0, 1) (192 + l1).toNatClampNeg) = 1 → w_X12_ends_p46 post zk2 l1 0 l1 M N) ∧ ((M (3, 0, 1) (192 + l1).toNatClampNeg) = 1 → vp_in (320 + l1) 1635 ∧ ((¬ (M (3, 0, 1) (320 + l1).toNatClampNeg) = 1 → w_X12_ends_p46 post zk2 l1 0 l1 M N) ∧ ((M (3, 0, 1) (320 + l1).toNatClampNeg) = 1 → w_X12_ends_p46 post zk2 l1 1 l1 M N))))))
noncomputable def w_X12_ends_p2 (post : am_I → am_N → Prop) (n : Nat) : Int32 → am_I → am_N → Prop :=
  Nat.rec (motive := fun _ => Int32 → am_I → am_N → Prop) (fun _ _ _ => False) (fun _ zk => w_X12_ends_p2_b post zk) n
theorem w_X12_ends_p2_s (post : am_I → am_N → Prop) (n : Nat) (l1 : Int32) (M : am_I) (N : am_N) : w_X12_ends_p2 post (n + 1) l1 M N = w_X12_ends_p2_b post (w_X12_ends_p2 post n) l1 M N := rfl
set_option maxRecDepth 10000 in
theorem k_X12_ends_p2 {d : Nat} {dm : List am_C} (h3 : am_d3 dm) {post : am_I → am_N → Prop} : ∀ (n : Nat) (l1 : Int32) (M : am_I) (N : am_N), w_X12_ends_p2 post n l1 M N → jg (d + 2) mX12_ends dm 2 [(0, .inr (.inr (3, 0, 0))), (1, .inl l1)] [] M N (am_pv post) := by
  intro n
  induction n with
  | zero => intro l1 M N h; exact h.elim
  | succ n zih =>
    intro l1 M N h
    replace h : w_X12_ends_p2_b post (w_X12_ends_p2 post n) l1 M N := h
    refine j_iload_n 1 dX12_ends_2 rfl ?_
    refine j_bipush (v := 64) dX12_ends_3 (by decide) ?_
    refine j_icmp_ge (tgt := 60) dX12_ends_5 (by decide) (fun hc => ?_) (fun hc => ?_)
    · replace h := h.1 hc
      refine j_iconst (v := 0) dX12_ends_60 (by decide) ?_
      refine j_istore_n dX12_ends_61 (by decide) rfl ?_
      refine j_sub [1, 0] rfl ?_
      obtain ⟨n, h⟩ := h
      exact k_X12_ends_p62 h3 n _ _ _ h
    · replace h := h.2 hc
      refine j_aload_n 0 dX12_ends_8 rfl ?_
      refine j_getR (b := (3, 0, 27)) dX12_ends_9 fsRX12_94 (h3 0 (by decide)) rfl rfl ?_
      refine j_iload_n 1 dX12_ends_12 rfl ?_
      refine j_aload_n 0 dX12_ends_13 rfl ?_
      refine j_getR (b := (3, 0, 1)) dX12_ends_14 fsRX12_7 (h3 0 (by decide)) rfl rfl ?_
      refine j_sipush (v := 192) dX12_ends_17 (by decide) ?_
      refine j_iload_n 1 dX12_ends_20 rfl ?_
      refine j_iadd dX12_ends_21 ?_
      obtain ⟨hq, h⟩ := h
      refine j_iald dX12_ends_22 (h3 1 (by decide)) rfl hq ?_
      refine j_iconst (v := 1) dX12_ends_23 (by decide) ?_
      refine j_icmp_ne (tgt := 45) dX12_ends_24 (by decide) (fun hc => ?_) (fun hc => ?_)
      · replace h := h.1 hc
        refine j_iconst (v := 0) dX12_ends_45 (by decide) ?_
        refine j_sub [0, 1] rfl ?_
        exact k_X12_ends_p46 h3 zih _ _ _ _ _ h
      · replace h := h.2 hc
        refine j_aload_n 0 dX12_ends_27 rfl ?_
        refine j_getR (b := (3, 0, 1)) dX12_ends_28 fsRX12_7 (h3 0 (by decide)) rfl rfl ?_
        refine j_sipush (v := 320) dX12_ends_31 (by decide) ?_
        refine j_iload_n 1 dX12_ends_34 rfl ?_
        refine j_iadd dX12_ends_35 ?_
        obtain ⟨hq, h⟩ := h
        refine j_iald dX12_ends_36 (h3 1 (by decide)) rfl hq ?_
        refine j_iconst (v := 1) dX12_ends_37 (by decide) ?_
        refine j_icmp_ne (tgt := 45) dX12_ends_38 (by decide) (fun hc => ?_) (fun hc => ?_)
        · replace h := h.1 hc
          refine j_iconst (v := 0) dX12_ends_45 (by decide) ?_
          refine j_sub [0, 1] rfl ?_
          exact k_X12_ends_p46 h3 zih _ _ _ _ _ h
        · replace h := h.2 hc
          refine j_iconst (v := 1) dX12_ends_41 (by decide) ?_
          refine j_goto (tgt := 46) dX12_ends_42 (by decide) ?_
          refine j_sub [0, 1] rfl ?_
          exact k_X12_ends_p46 h3 zih _ _ _ _ _ h
def w_X12_ends (M : am_I) (N : am_N) (post : am_I → am_N → Prop) : Prop :=
  ∃ n, w_X12_ends_p2 post n 0 M N
set_option maxRecDepth 10000 in
theorem k_X12_ends {d : Nat} {dm : List am_C} (h3 : am_d3 dm) {M : am_I} {N : am_N} {post : am_I → am_N → Prop} (h : w_X12_ends M N post) : jg (d + 2) mX12_ends dm 0 [(0, .inr (.inr (3, 0, 0)))] [] M N (am_pv post) := by
  refine j_iconst (v := 0) dX12_ends_0 (by decide) ?_
  refine j_istore_n dX12_ends_1 (by decide) rfl ?_
  refine j_sub [1, 0] rfl ?_
  obtain ⟨n, h⟩ := h
  exact k_X12_ends_p2 h3 n _ _ _ h
def w_X12_feed (a1 : Int32) (a2 : Int32) (a3 : Int32) (a4 : Int32) (a5 : Int32) (M : am_I) (N : am_N) (post : Int32 → am_I → am_N → Prop) : Prop :=
  ((((M (3, 0, 0) 47) + 20) ≤ 500 → w_X12_four a1 M N (fun zM1 zN2 => w_X12_four a2 zM1 zN2 (fun zM3 zN4 => w_X12_four a3 zM3 zN4 (fun zM5 zN6 => w_X12_four a4 zM5 zN6 (fun zM7 zN8 => w_X12_four a5 zM7 zN8 (fun zM9 zN10 => post (zM9 (3, 0, 0) 47) zM9 zN10)))))) ∧ (¬ ((M (3, 0, 0) 47) + 20) ≤ 500 → post (-1) M N))
set_option maxRecDepth 10000 in
theorem k_X12_feed {d : Nat} {dm : List am_C} (h3 : am_d3 dm) {a1 : Int32} {a2 : Int32} {a3 : Int32} {a4 : Int32} {a5 : Int32} {M : am_I} {N : am_N} {post : Int32 → am_I → am_N → Prop} (h : w_X12_feed a1 a2 a3 a4 a5 M N post) : jg (d + 2) mX12_feed dm 0 [(0, .inr (.inr (3, 0, 0))), (1, .inl a1), (2, .inl a2), (3, .inl a3), (4, .inl a4), (5, .inl a5)] [] M N (am_pi post) := by
  refine j_aload_n 0 dX12_feed_0 rfl ?_
  refine j_getI dX12_feed_1 fsRX12_360 (h3 0 (by decide)) rfl ?_
  refine j_bipush (v := 20) dX12_feed_4 (by decide) ?_
  refine j_iadd dX12_feed_6 ?_
  refine j_sipush (v := 500) dX12_feed_7 (by decide) ?_
  refine j_icmp_le (tgt := 15) dX12_feed_10 (by decide) (fun hc => ?_) (fun hc => ?_)
  · replace h := h.1 hc
    refine j_aload_n 0 dX12_feed_15 rfl ?_
    refine j_iload_n 1 dX12_feed_16 rfl ?_
    refine j_invV (As := [.inl a1]) dX12_feed_17 msRX12_363 mbX12_four rfl rfl (Nat.le_of_ble_eq_true rfl) (Nat.le_of_ble_eq_true rfl) (by omega) (h3 0 (by decide)) rfl rfl (k_X12_four (d := d + 0) h3 h) ?_
    rintro _ zM1 zN2 ⟨rfl, h⟩
    refine j_aload_n 0 dX12_feed_20 rfl ?_
    refine j_iload_n 2 dX12_feed_21 rfl ?_
    refine j_invV (As := [.inl a2]) dX12_feed_22 msRX12_363 mbX12_four rfl rfl (Nat.le_of_ble_eq_true rfl) (Nat.le_of_ble_eq_true rfl) (by omega) (h3 0 (by decide)) rfl rfl (k_X12_four (d := d + 0) h3 h) ?_
    rintro _ zM3 zN4 ⟨rfl, h⟩
    refine j_aload_n 0 dX12_feed_25 rfl ?_
    refine j_iload_n 3 dX12_feed_26 rfl ?_
    refine j_invV (As := [.inl a3]) dX12_feed_27 msRX12_363 mbX12_four rfl rfl (Nat.le_of_ble_eq_true rfl) (Nat.le_of_ble_eq_true rfl) (by omega) (h3 0 (by decide)) rfl rfl (k_X12_four (d := d + 0) h3 h) ?_
    rintro _ zM5 zN6 ⟨rfl, h⟩
    refine j_aload_n 0 dX12_feed_30 rfl ?_
    refine j_iload 4 dX12_feed_31 rfl ?_
    refine j_invV (As := [.inl a4]) dX12_feed_33 msRX12_363 mbX12_four rfl rfl (Nat.le_of_ble_eq_true rfl) (Nat.le_of_ble_eq_true rfl) (by omega) (h3 0 (by decide)) rfl rfl (k_X12_four (d := d + 0) h3 h) ?_
    rintro _ zM7 zN8 ⟨rfl, h⟩
    refine j_aload_n 0 dX12_feed_36 rfl ?_
    refine j_iload 5 dX12_feed_37 rfl ?_
    refine j_invV (As := [.inl a5]) dX12_feed_39 msRX12_363 mbX12_four rfl rfl (Nat.le_of_ble_eq_true rfl) (Nat.le_of_ble_eq_true rfl) (by omega) (h3 0 (by decide)) rfl rfl (k_X12_four (d := d + 0) h3 h) ?_
    rintro _ zM9 zN10 ⟨rfl, h⟩
    refine j_aload_n 0 dX12_feed_42 rfl ?_
    refine j_getI dX12_feed_43 fsRX12_360 (h3 0 (by decide)) rfl ?_
    exact j_iret dX12_feed_46 rfl ⟨_, rfl, h⟩
  · replace h := h.2 hc
    refine j_iconst (v := (-1)) dX12_feed_13 (by decide) ?_
    exact j_iret dX12_feed_14 rfl ⟨_, rfl, h⟩
def w_X12_held (a1 : Int64) (M : am_I) (N : am_N) (post : Int64 → am_I → am_N → Prop) : Prop :=
  w_J9_min_f86c9 1000000000 a1 M N (fun zr1 zM2 zN3 => w_J9_max_f86c9 (-1000000000) zr1 zM2 zN3 (fun zr4 zM5 zN6 => post zr4 zM5 zN6))
set_option maxRecDepth 10000 in
theorem k_X12_held {d : Nat} {dm : List am_C}  {a1 : Int64} {M : am_I} {N : am_N} {post : Int64 → am_I → am_N → Prop} (h : w_X12_held a1 M N post) : jg (d + 2) mX12_held dm 0 [(0, .inr (.inl a1))] [] M N (am_pl post) := by
  refine j_ldc2 (v := (-1000000000)) dX12_held_0 cw_1938 ?_
  refine j_ldc2 (v := 1000000000) dX12_held_3 cw_1580 ?_
  refine j_lload_n 0 dX12_held_6 rfl ?_
  refine j_invS (As := [.inr (.inl 1000000000), .inr (.inl a1)]) dX12_held_7 msRX12_262 mbJ9_min_f86c9 rfl rfl (Nat.le_of_ble_eq_true rfl) (Nat.le_of_ble_eq_true rfl) (by omega) (k_J9_min_f86c9 (d := d + 0)  h) ?_
  rintro _ zM2 zN3 ⟨zr1, rfl, h⟩
  refine j_invS (As := [.inr (.inl (-1000000000)), .inr (.inl zr1)]) dX12_held_10 msRX12_469 mbJ9_max_f86c9 rfl rfl (Nat.le_of_ble_eq_true rfl) (Nat.le_of_ble_eq_true rfl) (by omega) (k_J9_max_f86c9 (d := d + 0)  h) ?_
  rintro _ zM5 zN6 ⟨zr4, rfl, h⟩
  exact j_lret dX12_held_13 rfl ⟨_, rfl, h⟩
def w_X12_both_p160 (post : Int64 → am_I → am_N → Prop) (s0 : Int32) (M : am_I) (N : am_N) : Prop :=
  w_X12_bit s0 M N (fun zr1 zM2 zN3 => post zr1 zM2 zN3)
set_option maxRecDepth 10000 in
theorem k_X12_both_p160 {d : Nat} {dm : List am_C}  {post : Int64 → am_I → am_N → Prop} (s0 : Int32) (M : am_I) (N : am_N) (h : w_X12_both_p160 post s0 M N) : jg (d + 3) mX12_both dm 160 [] [.inl s0] M N (am_pl post) := by
  refine j_invS (As := [.inl s0]) dX12_both_160 msRX12_476 mbX12_bit rfl rfl (Nat.le_of_ble_eq_true rfl) (Nat.le_of_ble_eq_true rfl) (by omega) (k_X12_bit (d := d + 1)  h) ?_
  rintro _ zM2 zN3 ⟨zr1, rfl, h⟩
  exact j_lret dX12_both_163 rfl ⟨_, rfl, h⟩
def w_X12_both_p94 (post : Int64 → am_I → am_N → Prop) (s0 : Int32) (M : am_I) (N : am_N) : Prop :=
  w_X12_bit s0 M N (fun zr1 zM2 zN3 => post zr1 zM2 zN3)
set_option maxRecDepth 10000 in
theorem k_X12_both_p94 {d : Nat} {dm : List am_C}  {post : Int64 → am_I → am_N → Prop} (s0 : Int32) (M : am_I) (N : am_N) (h : w_X12_both_p94 post s0 M N) : jg (d + 3) mX12_both dm 94 [] [.inl s0] M N (am_pl post) := by
  refine j_invS (As := [.inl s0]) dX12_both_94 msRX12_476 mbX12_bit rfl rfl (Nat.le_of_ble_eq_true rfl) (Nat.le_of_ble_eq_true rfl) (by omega) (k_X12_bit (d := d + 1)  h) ?_
  rintro _ zM2 zN3 ⟨zr1, rfl, h⟩
  exact j_lret dX12_both_97 rfl ⟨_, rfl, h⟩
def w_X12_both_p109 (post : Int64 → am_I → am_N → Prop) (s0 : Int32) (M : am_I) (N : am_N) : Prop :=
  w_X12_bit s0 M N (fun zr1 zM2 zN3 => post zr1 zM2 zN3)
set_option maxRecDepth 10000 in
theorem k_X12_both_p109 {d : Nat} {dm : List am_C}  {post : Int64 → am_I → am_N → Prop} (s0 : Int32) (M : am_I) (N : am_N) (h : w_X12_both_p109 post s0 M N) : jg (d + 3) mX12_both dm 109 [] [.inl s0] M N (am_pl post) := by
  refine j_invS (As := [.inl s0]) dX12_both_109 msRX12_476 mbX12_bit rfl rfl (Nat.le_of_ble_eq_true rfl) (Nat.le_of_ble_eq_true rfl) (by omega) (k_X12_bit (d := d + 1)  h) ?_
  rintro _ zM2 zN3 ⟨zr1, rfl, h⟩
  exact j_lret dX12_both_112 rfl ⟨_, rfl, h⟩
def w_X12_both_p124 (post : Int64 → am_I → am_N → Prop) (s0 : Int32) (M : am_I) (N : am_N) : Prop :=
  w_X12_bit s0 M N (fun zr1 zM2 zN3 => post zr1 zM2 zN3)
set_option maxRecDepth 10000 in
theorem k_X12_both_p124 {d : Nat} {dm : List am_C}  {post : Int64 → am_I → am_N → Prop} (s0 : Int32) (M : am_I) (N : am_N) (h : w_X12_both_p124 post s0 M N) : jg (d + 3) mX12_both dm 124 [] [.inl s0] M N (am_pl post) := by
  refine j_invS (As := [.inl s0]) dX12_both_124 msRX12_476 mbX12_bit rfl rfl (Nat.le_of_ble_eq_true rfl) (Nat.le_of_ble_eq_true rfl) (by omega) (k_X12_bit (d := d + 1)  h) ?_
  rintro _ zM2 zN3 ⟨zr1, rfl, h⟩
  exact j_lret dX12_both_127 rfl ⟨_, rfl, h⟩
def w_X12_both_p141 (post : Int64 → am_I → am_N → Prop) (s0 : Int32) (M : am_I) (N : am_N) : Prop :=
  w_X12_bit s0 M N (fun zr1 zM2 zN3 => post zr1 zM2 zN3)
set_option maxRecDepth 10000 in
theorem k_X12_both_p141 {d : Nat} {dm : List am_C}  {post : Int64 → am_I → am_N → Prop} (s0 : Int32) (M : am_I) (N : am_N) (h : w_X12_both_p141 post s0 M N) : jg (d + 3) mX12_both dm 141 [] [.inl s0] M N (am_pl post) := by
  refine j_invS (As := [.inl s0]) dX12_both_141 msRX12_476 mbX12_bit rfl rfl (Nat.le_of_ble_eq_true rfl) (Nat.le_of_ble_eq_true rfl) (by omega) (k_X12_bit (d := d + 1)  h) ?_
  rintro _ zM2 zN3 ⟨zr1, rfl, h⟩
  exact j_lret dX12_both_144 rfl ⟨_, rfl, h⟩
def w_X12_both (a1 : Int32) (a2 : Int64) (a3 : Int64) (M : am_I) (N : am_N) (post : Int64 → am_I → am_N → Prop) : Prop :=
  ((a1 = 2 → w_X12_held (a2 + a3) M N (fun zr1 zM2 zN3 => post zr1 zM2 zN3)) ∧ (a1 = 3 → w_X12_held (a2 - a3) M N (fun zr4 zM5 zN6 => post zr4 zM5 zN6)) ∧ (a1 = 4 → w_X12_held (a2 * a3) M N (fun zr7 zM8 zN9 => post zr7 zM8 zN9)) ∧ (a1 = 5 → ((¬ a3 = 0 → ¬ a3 = 0 ∧ post (a2 / a3) M N) ∧ (a3 = 0 → post 0 M N))) ∧ (a1 = 6 → ((a3 ≤ a2 → w_X12_both_p94 post 0 M N) ∧ (¬ a3 ≤ a2 → w_X12_both_p94 post 1 M N))) ∧ (a1 = 7 → ((a2 ≤ a3 → w_X12_both_p109 post 0 M N) ∧ (¬ a2 ≤ a3 → w_X12_both_p109 post 1 M N))) ∧ (a1 = 8 → ((¬ a2 = a3 → w_X12_both_p124 post 0 M N) ∧ (a2 = a3 → w_X12_both_p124 post 1 M N))) ∧ (a1 = 9 → (((a2 + a3) ≤ 0 → w_X12_both_p141 post 0 M N) ∧ (¬ (a2 + a3) ≤ 0 → w_X12_both_p141 post 1 M N))) ∧ (¬ a1 = 2 → ¬ a1 = 3 → ¬ a1 = 4 → ¬ a1 = 5 → ¬ a1 = 6 → ¬ a1 = 7 → ¬ a1 = 8 → ¬ a1 = 9 → ((¬ (a2 + a3) = 2 → w_X12_both_p160 post 0 M N) ∧ ((a2 + a3) = 2 → w_X12_both_p160 post 1 M N))))
set_option maxRecDepth 10000 in
theorem k_X12_both {d : Nat} {dm : List am_C}  {a1 : Int32} {a2 : Int64} {a3 : Int64} {M : am_I} {N : am_N} {post : Int64 → am_I → am_N → Prop} (h : w_X12_both a1 a2 a3 M N post) : jg (d + 3) mX12_both dm 0 [(0, .inl a1), (1, .inr (.inl a2)), (3, .inr (.inl a3))] [] M N (am_pl post) := by
  refine j_iload_n 0 dX12_both_0 rfl ?_
  by_cases hs2 : a1 = 2
  · replace h := h.1 hs2
    refine j_tabK (k := 2) (tgt := 48) (off := 47) dX12_both_1 hs2 (by decide) (by decide) (by decide) (by decide) ?_
    refine j_lload_n 1 dX12_both_48 rfl ?_
    refine j_lload_n 2 dX12_both_49 rfl ?_
    refine j_ladd dX12_both_50 ?_
    refine j_invS (As := [.inr (.inl (a2 + a3))]) dX12_both_51 msRX12_472 mbX12_held rfl rfl (Nat.le_of_ble_eq_true rfl) (Nat.le_of_ble_eq_true rfl) (by omega) (k_X12_held (d := d + 0)  h) ?_
    rintro _ zM2 zN3 ⟨zr1, rfl, h⟩
    exact j_lret dX12_both_54 rfl ⟨_, rfl, h⟩
  by_cases hs3 : a1 = 3
  · replace h := h.2.1 hs3
    refine j_tabK (k := 3) (tgt := 55) (off := 54) dX12_both_1 hs3 (by decide) (by decide) (by decide) (by decide) ?_
    refine j_lload_n 1 dX12_both_55 rfl ?_
    refine j_lload_n 2 dX12_both_56 rfl ?_
    refine j_lsub dX12_both_57 ?_
    refine j_invS (As := [.inr (.inl (a2 - a3))]) dX12_both_58 msRX12_472 mbX12_held rfl rfl (Nat.le_of_ble_eq_true rfl) (Nat.le_of_ble_eq_true rfl) (by omega) (k_X12_held (d := d + 0)  h) ?_
    rintro _ zM5 zN6 ⟨zr4, rfl, h⟩
    exact j_lret dX12_both_61 rfl ⟨_, rfl, h⟩
  by_cases hs4 : a1 = 4
  · replace h := h.2.2.1 hs4
    refine j_tabK (k := 4) (tgt := 62) (off := 61) dX12_both_1 hs4 (by decide) (by decide) (by decide) (by decide) ?_
    refine j_lload_n 1 dX12_both_62 rfl ?_
    refine j_lload_n 2 dX12_both_63 rfl ?_
    refine j_lmul dX12_both_64 ?_
    refine j_invS (As := [.inr (.inl (a2 * a3))]) dX12_both_65 msRX12_472 mbX12_held rfl rfl (Nat.le_of_ble_eq_true rfl) (Nat.le_of_ble_eq_true rfl) (by omega) (k_X12_held (d := d + 0)  h) ?_
    rintro _ zM8 zN9 ⟨zr7, rfl, h⟩
    exact j_lret dX12_both_68 rfl ⟨_, rfl, h⟩
  by_cases hs5 : a1 = 5
  · replace h := h.2.2.2.1 hs5
    refine j_tabK (k := 5) (tgt := 69) (off := 68) dX12_both_1 hs5 (by decide) (by decide) (by decide) (by decide) ?_
    refine j_lload_n 2 dX12_both_69 rfl ?_
    refine j_lconst (v := 0) dX12_both_70 (by decide) ?_
    refine j_lcmp_ne (tgt := 79) dX12_both_71 dX12_both_72 (by decide) (fun hc => ?_) (fun hc => ?_)
    · replace h := h.1 hc
      refine j_lload_n 1 dX12_both_79 rfl ?_
      refine j_lload_n 2 dX12_both_80 rfl ?_
      obtain ⟨hq, h⟩ := h
      refine j_ldiv dX12_both_81 hq ?_
      exact j_lret dX12_both_82 rfl ⟨_, rfl, h⟩
    · replace h := h.2 hc
      refine j_lconst (v := 0) dX12_both_75 (by decide) ?_
      refine j_goto (tgt := 82) dX12_both_76 (by decide) ?_
      exact j_lret dX12_both_82 rfl ⟨_, rfl, h⟩
  by_cases hs6 : a1 = 6
  · replace h := h.2.2.2.2.1 hs6
    refine j_tabK (k := 6) (tgt := 83) (off := 82) dX12_both_1 hs6 (by decide) (by decide) (by decide) (by decide) ?_
    refine j_lload_n 1 dX12_both_83 rfl ?_
    refine j_lload_n 2 dX12_both_84 rfl ?_
    refine j_lcmp_ge (tgt := 93) dX12_both_85 dX12_both_86 (by decide) (fun hc => ?_) (fun hc => ?_)
    · replace h := h.1 hc
      refine j_iconst (v := 0) dX12_both_93 (by decide) ?_
      refine j_sub [] rfl ?_
      exact k_X12_both_p94  _ _ _ h
    · replace h := h.2 hc
      refine j_iconst (v := 1) dX12_both_89 (by decide) ?_
      refine j_goto (tgt := 94) dX12_both_90 (by decide) ?_
      refine j_sub [] rfl ?_
      exact k_X12_both_p94  _ _ _ h
  by_cases hs7 : a1 = 7
  · replace h := h.2.2.2.2.2.1 hs7
    refine j_tabK (k := 7) (tgt := 98) (off := 97) dX12_both_1 hs7 (by decide) (by decide) (by decide) (by decide) ?_
    refine j_lload_n 1 dX12_both_98 rfl ?_
    refine j_lload_n 2 dX12_both_99 rfl ?_
    refine j_lcmp_le (tgt := 108) dX12_both_100 dX12_both_101 (by decide) (fun hc => ?_) (fun hc => ?_)
    · replace h := h.1 hc
      refine j_iconst (v := 0) dX12_both_108 (by decide) ?_
      refine j_sub [] rfl ?_
      exact k_X12_both_p109  _ _ _ h
    · replace h := h.2 hc
      refine j_iconst (v := 1) dX12_both_104 (by decide) ?_
      refine j_goto (tgt := 109) dX12_both_105 (by decide) ?_
      refine j_sub [] rfl ?_
      exact k_X12_both_p109  _ _ _ h
  by_cases hs8 : a1 = 8
  · replace h := h.2.2.2.2.2.2.1 hs8
    refine j_tabK (k := 8) (tgt := 113) (off := 112) dX12_both_1 hs8 (by decide) (by decide) (by decide) (by decide) ?_
    refine j_lload_n 1 dX12_both_113 rfl ?_
    refine j_lload_n 2 dX12_both_114 rfl ?_
    refine j_lcmp_ne (tgt := 123) dX12_both_115 dX12_both_116 (by decide) (fun hc => ?_) (fun hc => ?_)
    · replace h := h.1 hc
      refine j_iconst (v := 0) dX12_both_123 (by decide) ?_
      refine j_sub [] rfl ?_
      exact k_X12_both_p124  _ _ _ h
    · replace h := h.2 hc
      refine j_iconst (v := 1) dX12_both_119 (by decide) ?_
      refine j_goto (tgt := 124) dX12_both_120 (by decide) ?_
      refine j_sub [] rfl ?_
      exact k_X12_both_p124  _ _ _ h
  by_cases hs9 : a1 = 9
  · replace h := h.2.2.2.2.2.2.2.1 hs9
    refine j_tabK (k := 9) (tgt := 128) (off := 127) dX12_both_1 hs9 (by decide) (by decide) (by decide) (by decide) ?_
    refine j_lload_n 1 dX12_both_128 rfl ?_
    refine j_lload_n 2 dX12_both_129 rfl ?_
    refine j_ladd dX12_both_130 ?_
    refine j_lconst (v := 0) dX12_both_131 (by decide) ?_
    refine j_lcmp_le (tgt := 140) dX12_both_132 dX12_both_133 (by decide) (fun hc => ?_) (fun hc => ?_)
    · replace h := h.1 hc
      refine j_iconst (v := 0) dX12_both_140 (by decide) ?_
      refine j_sub [] rfl ?_
      exact k_X12_both_p141  _ _ _ h
    · replace h := h.2 hc
      refine j_iconst (v := 1) dX12_both_136 (by decide) ?_
      refine j_goto (tgt := 141) dX12_both_137 (by decide) ?_
      refine j_sub [] rfl ?_
      exact k_X12_both_p141  _ _ _ h
  replace h := h.2.2.2.2.2.2.2.2 hs2 hs3 hs4 hs5 hs6 hs7 hs8 hs9
  refine j_tableOut (tgt := 145) dX12_both_1 (am_sw2 (n := 7) (fun k hk => match k, hk with | 0, _ => hs2 | 1, _ => hs3 | 2, _ => hs4 | 3, _ => hs5 | 4, _ => hs6 | 5, _ => hs7 | 6, _ => hs8 | 7, _ => hs9 | k + 8, hk => absurd hk (by omega))) (by decide) ?_
  refine j_lload_n 1 dX12_both_145 rfl ?_
  refine j_lload_n 2 dX12_both_146 rfl ?_
  refine j_ladd dX12_both_147 ?_
  refine j_ldc2 (v := 2) dX12_both_148 cw_1943 ?_
  refine j_lcmp_ne (tgt := 159) dX12_both_151 dX12_both_152 (by decide) (fun hc => ?_) (fun hc => ?_)
  · replace h := h.1 hc
    refine j_iconst (v := 0) dX12_both_159 (by decide) ?_
    refine j_sub [] rfl ?_
    exact k_X12_both_p160  _ _ _ h
  · replace h := h.2 hc
    refine j_iconst (v := 1) dX12_both_155 (by decide) ?_
    refine j_goto (tgt := 160) dX12_both_156 (by decide) ?_
    refine j_sub [] rfl ?_
    exact k_X12_both_p160  _ _ _ h
def w_X12_runs_p5_b (post : Int64 → am_I → am_N → Prop) (zk5 : Int32 → Int32 → Int32 → am_I → am_N → Prop) (l2 : Int32) (l3 : Int32) (l4 : Int32) (M : am_I) (N : am_N) : Prop :=
  ((l2 ≤ l4 → post (N (3, 0, 41) 0) M N) ∧ (¬ l2 ≤ l4 → vp_in l4 6300 ∧ ∀ zv1 : Int32, zv1 = M (3, 0, 39) l4.toNatClampNeg → ((1 < zv1 → ((¬ zv1 = 11 → vp_in ((l3 + (-1)) - 1) 64 ∧ vp_in (l3 + (-1)) 64 ∧ w_X12_both zv1 (N (3, 0, 41) ((l3 + (-1)) - 1).toNatClampNeg) (N (3, 0, 41) (l3 + (-1)).toNatClampNeg) M N (fun zr2 zM3 zN4 => vp_in ((l3 + (-1)) - 1) 64 ∧ zk5 l2 (l3 + (-1)) (l4 + 1) zM3 (am_ul zN4 (3, 0, 41) ((l3 + (-1)) - 1).toNatClampNeg zr2))) ∧ (zv1 = 11 → vp_in (l3 - 1) 64 ∧ vp_in (l3 - 1) 64 ∧ zk5 l2 l3 (l4 + 1) M (am_ul N (3, 0, 41) (l3 - 1).toNatClampNeg (1 - (N (3, 0, 41) (l3 - 1).toNatClampNeg)))))) ∧ (¬ 1 < zv1 → ((¬ zv1 = 0 → vp_in l4 6300 ∧ vp_in (M (3, 0, 40) l4.toNatClampNeg) 8 ∧ vp_in l3 64 ∧ zk5 l2 (l3 + 1) (l4 + 1) M (am_ul N (3, 0, 41) l3.toNatClampNeg (N (3, 0, 42) (M (3, 0, 40) l4.toNatClampNeg).toNatClampNeg))) ∧ (zv1 = 0 → vp_in l4 6300 ∧ vp_in l3 64 ∧ zk5 l2 (l3 + 1) (l4 + 1) M (am_ul N (3, 0, 41) l3.toNatClampNeg ((M (3, 0, 40) l4.toNatClampNeg).toInt64))))))))
noncomputable def w_X12_runs_p5 (post : Int64 → am_I → am_N → Prop) (n : Nat) : Int32 → Int32 → Int32 → am_I → am_N → Prop :=
  Nat.rec (motive := fun _ => Int32 → Int32 → Int32 → am_I → am_N → Prop) (fun _ _ _ _ _ => False) (fun _ zk => w_X12_runs_p5_b post zk) n
theorem w_X12_runs_p5_s (post : Int64 → am_I → am_N → Prop) (n : Nat) (l2 : Int32) (l3 : Int32) (l4 : Int32) (M : am_I) (N : am_N) : w_X12_runs_p5 post (n + 1) l2 l3 l4 M N = w_X12_runs_p5_b post (w_X12_runs_p5 post n) l2 l3 l4 M N := rfl
set_option maxRecDepth 10000 in
theorem k_X12_runs_p5 {d : Nat} {dm : List am_C} (h3 : am_d3 dm) {post : Int64 → am_I → am_N → Prop} : ∀ (n : Nat) (l2 : Int32) (l3 : Int32) (l4 : Int32) (M : am_I) (N : am_N), w_X12_runs_p5 post n l2 l3 l4 M N → jg (d + 4) mX12_runs dm 5 [(0, .inr (.inr (3, 0, 0))), (2, .inl l2), (3, .inl l3), (4, .inl l4)] [] M N (am_pl post) := by
  intro n
  induction n with
  | zero => intro l2 l3 l4 M N h; exact h.elim
  | succ n zih =>
    intro l2 l3 l4 M N h
    replace h : w_X12_runs_p5_b post (w_X12_runs_p5 post n) l2 l3 l4 M N := h
    refine j_iload 3 dX12_runs_5 rfl ?_
    refine j_iload_n 1 dX12_runs_7 rfl ?_
    refine j_icmp_ge (tgt := 130) dX12_runs_8 (by decide) (fun hc => ?_) (fun hc => ?_)
    · replace h := h.1 hc
      refine j_aload_n 0 dX12_runs_130 rfl ?_
      refine j_getR (b := (3, 0, 41)) dX12_runs_131 fsRX12_139 (h3 0 (by decide)) rfl rfl ?_
      refine j_iconst (v := 0) dX12_runs_134 (by decide) ?_
      refine j_lald dX12_runs_135 (h3 41 (by decide)) rfl (by unfold vp_in; decide) ?_
      exact j_lret dX12_runs_136 rfl ⟨_, rfl, h⟩
    · replace h := h.2 hc
      refine j_aload_n 0 dX12_runs_11 rfl ?_
      refine j_getR (b := (3, 0, 39)) dX12_runs_12 fsRX12_133 (h3 0 (by decide)) rfl rfl ?_
      refine j_iload 3 dX12_runs_15 rfl ?_
      obtain ⟨hq, h⟩ := h
      refine j_iald dX12_runs_17 (h3 39 (by decide)) rfl hq ?_
      refine j_topi (fun zv1 hzv1 => ?_)
      replace h := h zv1 hzv1
      refine j_istore dX12_runs_18 (by decide) rfl ?_
      refine j_iload 0 dX12_runs_20 rfl ?_
      refine j_iconst (v := 1) dX12_runs_22 (by decide) ?_
      refine j_icmp_gt (tgt := 66) dX12_runs_23 (by decide) (fun hc => ?_) (fun hc => ?_)
      · replace h := h.1 hc
        refine j_iload 0 dX12_runs_66 rfl ?_
        refine j_bipush (v := 11) dX12_runs_68 (by decide) ?_
        refine j_icmp_ne (tgt := 94) dX12_runs_70 (by decide) (fun hc => ?_) (fun hc => ?_)
        · replace h := h.1 hc
          refine j_iinc 3 dX12_runs_94 rfl rfl (by decide) rfl ?_
          refine j_aload_n 2 dX12_runs_97 rfl ?_
          refine j_getR (b := (3, 0, 41)) dX12_runs_98 fsRX12_139 (h3 0 (by decide)) rfl rfl ?_
          refine j_iload_n 0 dX12_runs_101 rfl ?_
          refine j_iconst (v := 1) dX12_runs_102 (by decide) ?_
          refine j_isub dX12_runs_103 ?_
          refine j_iload 1 dX12_runs_104 rfl ?_
          refine j_aload_n 2 dX12_runs_106 rfl ?_
          refine j_getR (b := (3, 0, 41)) dX12_runs_107 fsRX12_139 (h3 0 (by decide)) rfl rfl ?_
          refine j_iload_n 0 dX12_runs_110 rfl ?_
          refine j_iconst (v := 1) dX12_runs_111 (by decide) ?_
          refine j_isub dX12_runs_112 ?_
          obtain ⟨hq, h⟩ := h
          refine j_lald dX12_runs_113 (h3 41 (by decide)) rfl hq ?_
          refine j_aload_n 2 dX12_runs_114 rfl ?_
          refine j_getR (b := (3, 0, 41)) dX12_runs_115 fsRX12_139 (h3 0 (by decide)) rfl rfl ?_
          refine j_iload_n 0 dX12_runs_118 rfl ?_
          obtain ⟨hq, h⟩ := h
          refine j_lald dX12_runs_119 (h3 41 (by decide)) rfl hq ?_
          refine j_invS (As := [.inl zv1, .inr (.inl (N (3, 0, 41) ((l3 + (-1)) - 1).toNatClampNeg)), .inr (.inl (N (3, 0, 41) (l3 + (-1)).toNatClampNeg))]) dX12_runs_120 msRX12_482 mbX12_both rfl rfl (Nat.le_of_ble_eq_true rfl) (Nat.le_of_ble_eq_true rfl) (by omega) (k_X12_both (d := d + 0)  h) ?_
          rintro _ zM3 zN4 ⟨zr2, rfl, h⟩
          obtain ⟨hq, h⟩ := h
          refine j_last dX12_runs_123 (h3 41 (by decide)) rfl hq ?_
          refine j_iinc 4 dX12_runs_124 rfl rfl (by decide) rfl ?_
          refine j_goto (tgt := 5) dX12_runs_127 (by decide) ?_
          refine j_sub [3, 4, 1, 0] rfl ?_
          exact zih _ _ _ _ _ h
        · replace h := h.2 hc
          refine j_aload_n 1 dX12_runs_73 rfl ?_
          refine j_getR (b := (3, 0, 41)) dX12_runs_74 fsRX12_139 (h3 0 (by decide)) rfl rfl ?_
          refine j_iload_n 3 dX12_runs_77 rfl ?_
          refine j_iconst (v := 1) dX12_runs_78 (by decide) ?_
          refine j_isub dX12_runs_79 ?_
          refine j_lconst (v := 1) dX12_runs_80 (by decide) ?_
          refine j_aload_n 1 dX12_runs_81 rfl ?_
          refine j_getR (b := (3, 0, 41)) dX12_runs_82 fsRX12_139 (h3 0 (by decide)) rfl rfl ?_
          refine j_iload_n 3 dX12_runs_85 rfl ?_
          refine j_iconst (v := 1) dX12_runs_86 (by decide) ?_
          refine j_isub dX12_runs_87 ?_
          obtain ⟨hq, h⟩ := h
          refine j_lald dX12_runs_88 (h3 41 (by decide)) rfl hq ?_
          refine j_lsub dX12_runs_89 ?_
          obtain ⟨hq, h⟩ := h
          refine j_last dX12_runs_90 (h3 41 (by decide)) rfl hq ?_
          refine j_goto (tgt := 124) dX12_runs_91 (by decide) ?_
          refine j_iinc 4 dX12_runs_124 rfl rfl (by decide) rfl ?_
          refine j_goto (tgt := 5) dX12_runs_127 (by decide) ?_
          refine j_sub [2, 3, 4, 0] rfl ?_
          exact zih _ _ _ _ _ h
      · replace h := h.2 hc
        refine j_aload_n 1 dX12_runs_26 rfl ?_
        refine j_getR (b := (3, 0, 41)) dX12_runs_27 fsRX12_139 (h3 0 (by decide)) rfl rfl ?_
        refine j_iload_n 3 dX12_runs_30 rfl ?_
        refine j_iload 0 dX12_runs_31 rfl ?_
        refine j_if_ne (tgt := 47) dX12_runs_33 (by decide) (fun hc => ?_) (fun hc => ?_)
        · replace h := h.1 hc
          refine j_aload_n 1 dX12_runs_47 rfl ?_
          refine j_getR (b := (3, 0, 42)) dX12_runs_48 fsRX12_142 (h3 0 (by decide)) rfl rfl ?_
          refine j_aload_n 1 dX12_runs_51 rfl ?_
          refine j_getR (b := (3, 0, 40)) dX12_runs_52 fsRX12_136 (h3 0 (by decide)) rfl rfl ?_
          refine j_iload 4 dX12_runs_55 rfl ?_
          obtain ⟨hq, h⟩ := h
          refine j_iald dX12_runs_57 (h3 40 (by decide)) rfl hq ?_
          obtain ⟨hq, h⟩ := h
          refine j_lald dX12_runs_58 (h3 42 (by decide)) rfl hq ?_
          obtain ⟨hq, h⟩ := h
          refine j_last dX12_runs_59 (h3 41 (by decide)) rfl hq ?_
          refine j_iinc 3 dX12_runs_60 rfl rfl (by decide) rfl ?_
          refine j_goto (tgt := 124) dX12_runs_63 (by decide) ?_
          refine j_iinc 4 dX12_runs_124 rfl rfl (by decide) rfl ?_
          refine j_goto (tgt := 5) dX12_runs_127 (by decide) ?_
          refine j_sub [3, 4, 1, 0] rfl ?_
          exact zih _ _ _ _ _ h
        · replace h := h.2 hc
          refine j_aload_n 1 dX12_runs_36 rfl ?_
          refine j_getR (b := (3, 0, 40)) dX12_runs_37 fsRX12_136 (h3 0 (by decide)) rfl rfl ?_
          refine j_iload 4 dX12_runs_40 rfl ?_
          obtain ⟨hq, h⟩ := h
          refine j_iald dX12_runs_42 (h3 40 (by decide)) rfl hq ?_
          refine j_i2l dX12_runs_43 ?_
          refine j_goto (tgt := 59) dX12_runs_44 (by decide) ?_
          obtain ⟨hq, h⟩ := h
          refine j_last dX12_runs_59 (h3 41 (by decide)) rfl hq ?_
          refine j_iinc 3 dX12_runs_60 rfl rfl (by decide) rfl ?_
          refine j_goto (tgt := 124) dX12_runs_63 (by decide) ?_
          refine j_iinc 4 dX12_runs_124 rfl rfl (by decide) rfl ?_
          refine j_goto (tgt := 5) dX12_runs_127 (by decide) ?_
          refine j_sub [3, 4, 1, 0] rfl ?_
          exact zih _ _ _ _ _ h
def w_X12_runs (a1 : Int32) (a2 : Int32) (M : am_I) (N : am_N) (post : Int64 → am_I → am_N → Prop) : Prop :=
  ∃ n, w_X12_runs_p5 post n a2 0 a1 M N
set_option maxRecDepth 10000 in
theorem k_X12_runs {d : Nat} {dm : List am_C} (h3 : am_d3 dm) {a1 : Int32} {a2 : Int32} {M : am_I} {N : am_N} {post : Int64 → am_I → am_N → Prop} (h : w_X12_runs a1 a2 M N post) : jg (d + 4) mX12_runs dm 0 [(0, .inr (.inr (3, 0, 0))), (1, .inl a1), (2, .inl a2)] [] M N (am_pl post) := by
  refine j_iconst (v := 0) dX12_runs_0 (by decide) ?_
  refine j_istore_n dX12_runs_1 (by decide) rfl ?_
  refine j_iload_n 2 dX12_runs_2 rfl ?_
  refine j_istore dX12_runs_3 (by decide) rfl ?_
  refine j_sub [2, 4, 1, 0] rfl ?_
  obtain ⟨n, h⟩ := h
  exact k_X12_runs_p5 h3 n _ _ _ _ _ h
def w_X12_nextRain_p6_b (post : Int32 → am_I → am_N → Prop) (zk6 : Int32 → Int32 → am_I → am_N → Prop) (l1 : Int32) (l2 : Int32) (M : am_I) (N : am_N) : Prop :=
  (((M (3, 0, 0) 10) ≤ l2 → post l1 M N) ∧ (¬ (M (3, 0, 0) 10) ≤ l2 → vp_in l2 30 ∧ (((M (3, 0, 9) l2.toNatClampNeg) ≤ (M (3, 0, 1) 1624) → zk6 l1 (l2 + 1) M N) ∧ (¬ (M (3, 0, 9) l2.toNatClampNeg) ≤ (M (3, 0, 1) 1624) → vp_in l2 30 ∧ w_J9_max_7cf53 1 ((M (3, 0, 8) l2.toNatClampNeg) - (M (3, 0, 1) 1624)) M N (fun zr1 zM2 zN3 => w_J9_min_7cf53 l1 zr1 zM2 zN3 (fun zr4 zM5 zN6 => zk6 zr4 (l2 + 1) zM5 zN6))))))
noncomputable def w_X12_nextRain_p6 (post : Int32 → am_I → am_N → Prop) (n : Nat) : Int32 → Int32 → am_I → am_N → Prop :=
  Nat.rec (motive := fun _ => Int32 → Int32 → am_I → am_N → Prop) (fun _ _ _ _ => False) (fun _ zk => w_X12_nextRain_p6_b post zk) n
theorem w_X12_nextRain_p6_s (post : Int32 → am_I → am_N → Prop) (n : Nat) (l1 : Int32) (l2 : Int32) (M : am_I) (N : am_N) : w_X12_nextRain_p6 post (n + 1) l1 l2 M N = w_X12_nextRain_p6_b post (w_X12_nextRain_p6 post n) l1 l2 M N := rfl
set_option maxRecDepth 10000 in
theorem k_X12_nextRain_p6 {d : Nat} {dm : List am_C} (h3 : am_d3 dm) {post : Int32 → am_I → am_N → Prop} : ∀ (n : Nat) (l1 : Int32) (l2 : Int32) (M : am_I) (N : am_N), w_X12_nextRain_p6 post n l1 l2 M N → jg (d + 2) mX12_nextRain dm 6 [(0, .inr (.inr (3, 0, 0))), (1, .inl l1), (2, .inl l2)] [] M N (am_pi post) := by
  intro n
  induction n with
  | zero => intro l1 l2 M N h; exact h.elim
  | succ n zih =>
    intro l1 l2 M N h
    replace h : w_X12_nextRain_p6_b post (w_X12_nextRain_p6 post n) l1 l2 M N := h
    refine j_iload_n 2 dX12_nextRain_6 rfl ?_
    refine j_aload_n 0 dX12_nextRain_7 rfl ?_
    refine j_getI dX12_nextRain_8 fsRX12_210 (h3 0 (by decide)) rfl ?_
    refine j_icmp_ge (tgt := 61) dX12_nextRain_11 (by decide) (fun hc => ?_) (fun hc => ?_)
    · replace h := h.1 hc
      refine j_iload_n 1 dX12_nextRain_61 rfl ?_
      exact j_iret dX12_nextRain_62 rfl ⟨_, rfl, h⟩
    · replace h := h.2 hc
      refine j_aload_n 0 dX12_nextRain_14 rfl ?_
      refine j_getR (b := (3, 0, 9)) dX12_nextRain_15 fsRX12_34 (h3 0 (by decide)) rfl rfl ?_
      refine j_iload_n 2 dX12_nextRain_18 rfl ?_
      obtain ⟨hq, h⟩ := h
      refine j_iald dX12_nextRain_19 (h3 9 (by decide)) rfl hq ?_
      refine j_aload_n 0 dX12_nextRain_20 rfl ?_
      refine j_getR (b := (3, 0, 1)) dX12_nextRain_21 fsRX12_7 (h3 0 (by decide)) rfl rfl ?_
      refine j_sipush (v := 1624) dX12_nextRain_24 (by decide) ?_
      refine j_iald dX12_nextRain_27 (h3 1 (by decide)) rfl (by unfold vp_in; decide) ?_
      refine j_icmp_le (tgt := 55) dX12_nextRain_28 (by decide) (fun hc => ?_) (fun hc => ?_)
      · replace h := h.1 hc
        refine j_iinc 2 dX12_nextRain_55 rfl rfl (by decide) rfl ?_
        refine j_goto (tgt := 6) dX12_nextRain_58 (by decide) ?_
        refine j_sub [1, 2, 0] rfl ?_
        exact zih _ _ _ _ h
      · replace h := h.2 hc
        refine j_iload_n 1 dX12_nextRain_31 rfl ?_
        refine j_iconst (v := 1) dX12_nextRain_32 (by decide) ?_
        refine j_aload_n 0 dX12_nextRain_33 rfl ?_
        refine j_getR (b := (3, 0, 8)) dX12_nextRain_34 fsRX12_31 (h3 0 (by decide)) rfl rfl ?_
        refine j_iload_n 2 dX12_nextRain_37 rfl ?_
        obtain ⟨hq, h⟩ := h
        refine j_iald dX12_nextRain_38 (h3 8 (by decide)) rfl hq ?_
        refine j_aload_n 0 dX12_nextRain_39 rfl ?_
        refine j_getR (b := (3, 0, 1)) dX12_nextRain_40 fsRX12_7 (h3 0 (by decide)) rfl rfl ?_
        refine j_sipush (v := 1624) dX12_nextRain_43 (by decide) ?_
        refine j_iald dX12_nextRain_46 (h3 1 (by decide)) rfl (by unfold vp_in; decide) ?_
        refine j_isub dX12_nextRain_47 ?_
        refine j_invS (As := [.inl 1, .inl ((M (3, 0, 8) l2.toNatClampNeg) - (M (3, 0, 1) 1624))]) dX12_nextRain_48 msRX12_486 mbJ9_max_7cf53 rfl rfl (Nat.le_of_ble_eq_true rfl) (Nat.le_of_ble_eq_true rfl) (by omega) (k_J9_max_7cf53 (d := d + 0)  h) ?_
        rintro _ zM2 zN3 ⟨zr1, rfl, h⟩
        refine j_invS (As := [.inl l1, .inl zr1]) dX12_nextRain_51 msRX12_276 mbJ9_min_7cf53 rfl rfl (Nat.le_of_ble_eq_true rfl) (Nat.le_of_ble_eq_true rfl) (by omega) (k_J9_min_7cf53 (d := d + 0)  h) ?_
        rintro _ zM5 zN6 ⟨zr4, rfl, h⟩
        refine j_istore_n dX12_nextRain_54 (by decide) rfl ?_
        refine j_iinc 2 dX12_nextRain_55 rfl rfl (by decide) rfl ?_
        refine j_goto (tgt := 6) dX12_nextRain_58 (by decide) ?_
        refine j_sub [2, 1, 0] rfl ?_
        exact zih _ _ _ _ h
def w_X12_nextRain (M : am_I) (N : am_N) (post : Int32 → am_I → am_N → Prop) : Prop :=
  ∃ n, w_X12_nextRain_p6 post n 900 0 M N
set_option maxRecDepth 10000 in
theorem k_X12_nextRain {d : Nat} {dm : List am_C} (h3 : am_d3 dm) {M : am_I} {N : am_N} {post : Int32 → am_I → am_N → Prop} (h : w_X12_nextRain M N post) : jg (d + 2) mX12_nextRain dm 0 [(0, .inr (.inr (3, 0, 0)))] [] M N (am_pi post) := by
  refine j_sipush (v := 900) dX12_nextRain_0 (by decide) ?_
  refine j_istore_n dX12_nextRain_3 (by decide) rfl ?_
  refine j_iconst (v := 0) dX12_nextRain_4 (by decide) ?_
  refine j_istore_n dX12_nextRain_5 (by decide) rfl ?_
  refine j_sub [2, 1, 0] rfl ?_
  obtain ⟨n, h⟩ := h
  exact k_X12_nextRain_p6 h3 n _ _ _ _ h
def w_X12_toDo_p155_b (post : Int32 → am_I → am_N → Prop) (zk155 : Int32 → Int32 → am_I → am_N → Prop) (l2 : Int32) (l3 : Int32) (M : am_I) (N : am_N) : Prop :=
  vp_in l2 9 ∧ ((((24 * l2) + (M (3, 0, 34) l2.toNatClampNeg)) ≤ l3 → post (-1) M N) ∧ (¬ ((24 * l2) + (M (3, 0, 34) l2.toNatClampNeg)) ≤ l3 → vp_in l3 216 ∧ vp_in l3 216 ∧ (((M (3, 0, 37) l3.toNatClampNeg) = (M (3, 0, 38) l3.toNatClampNeg) → post l3 M N) ∧ (¬ (M (3, 0, 37) l3.toNatClampNeg) = (M (3, 0, 38) l3.toNatClampNeg) → vp_in l3 216 ∧ vp_in l3 216 ∧ w_X12_runs (M (3, 0, 37) l3.toNatClampNeg) (M (3, 0, 38) l3.toNatClampNeg) M N (fun zr1 zM2 zN3 => ((¬ zr1 = 1 → zk155 l2 (l3 + 1) zM2 zN3) ∧ (zr1 = 1 → post l3 zM2 zN3)))))))
noncomputable def w_X12_toDo_p155 (post : Int32 → am_I → am_N → Prop) (n : Nat) : Int32 → Int32 → am_I → am_N → Prop :=
  Nat.rec (motive := fun _ => Int32 → Int32 → am_I → am_N → Prop) (fun _ _ _ _ => False) (fun _ zk => w_X12_toDo_p155_b post zk) n
theorem w_X12_toDo_p155_s (post : Int32 → am_I → am_N → Prop) (n : Nat) (l2 : Int32) (l3 : Int32) (M : am_I) (N : am_N) : w_X12_toDo_p155 post (n + 1) l2 l3 M N = w_X12_toDo_p155_b post (w_X12_toDo_p155 post n) l2 l3 M N := rfl
set_option maxRecDepth 10000 in
theorem k_X12_toDo_p155 {d : Nat} {dm : List am_C} (h3 : am_d3 dm) {post : Int32 → am_I → am_N → Prop} : ∀ (n : Nat) (l2 : Int32) (l3 : Int32) (M : am_I) (N : am_N), w_X12_toDo_p155 post n l2 l3 M N → jg (d + 5) mX12_toDo dm 155 [(0, .inr (.inr (3, 0, 0))), (2, .inl l2), (3, .inl l3)] [] M N (am_pi post) := by
  intro n
  induction n with
  | zero => intro l2 l3 M N h; exact h.elim
  | succ n zih =>
    intro l2 l3 M N h
    replace h : w_X12_toDo_p155_b post (w_X12_toDo_p155 post n) l2 l3 M N := h
    refine j_iload_n 2 dX12_toDo_155 rfl ?_
    refine j_bipush (v := 24) dX12_toDo_156 (by decide) ?_
    refine j_iload_n 1 dX12_toDo_158 rfl ?_
    refine j_imul dX12_toDo_159 ?_
    refine j_aload_n 0 dX12_toDo_160 rfl ?_
    refine j_getR (b := (3, 0, 34)) dX12_toDo_161 fsRX12_118 (h3 0 (by decide)) rfl rfl ?_
    refine j_iload_n 1 dX12_toDo_164 rfl ?_
    obtain ⟨hq, h⟩ := h
    refine j_iald dX12_toDo_165 (h3 34 (by decide)) rfl hq ?_
    refine j_iadd dX12_toDo_166 ?_
    refine j_icmp_ge (tgt := 214) dX12_toDo_167 (by decide) (fun hc => ?_) (fun hc => ?_)
    · replace h := h.1 hc
      refine j_iconst (v := (-1)) dX12_toDo_214 (by decide) ?_
      exact j_iret dX12_toDo_215 rfl ⟨_, rfl, h⟩
    · replace h := h.2 hc
      refine j_aload_n 0 dX12_toDo_170 rfl ?_
      refine j_getR (b := (3, 0, 37)) dX12_toDo_171 fsRX12_127 (h3 0 (by decide)) rfl rfl ?_
      refine j_iload_n 2 dX12_toDo_174 rfl ?_
      obtain ⟨hq, h⟩ := h
      refine j_iald dX12_toDo_175 (h3 37 (by decide)) rfl hq ?_
      refine j_aload_n 0 dX12_toDo_176 rfl ?_
      refine j_getR (b := (3, 0, 38)) dX12_toDo_177 fsRX12_130 (h3 0 (by decide)) rfl rfl ?_
      refine j_iload_n 2 dX12_toDo_180 rfl ?_
      obtain ⟨hq, h⟩ := h
      refine j_iald dX12_toDo_181 (h3 38 (by decide)) rfl hq ?_
      refine j_icmp_eq (tgt := 206) dX12_toDo_182 (by decide) (fun hc => ?_) (fun hc => ?_)
      · replace h := h.1 hc
        refine j_iload_n 2 dX12_toDo_206 rfl ?_
        exact j_iret dX12_toDo_207 rfl ⟨_, rfl, h⟩
      · replace h := h.2 hc
        refine j_aload_n 0 dX12_toDo_185 rfl ?_
        refine j_aload_n 0 dX12_toDo_186 rfl ?_
        refine j_getR (b := (3, 0, 37)) dX12_toDo_187 fsRX12_127 (h3 0 (by decide)) rfl rfl ?_
        refine j_iload_n 2 dX12_toDo_190 rfl ?_
        obtain ⟨hq, h⟩ := h
        refine j_iald dX12_toDo_191 (h3 37 (by decide)) rfl hq ?_
        refine j_aload_n 0 dX12_toDo_192 rfl ?_
        refine j_getR (b := (3, 0, 38)) dX12_toDo_193 fsRX12_130 (h3 0 (by decide)) rfl rfl ?_
        refine j_iload_n 2 dX12_toDo_196 rfl ?_
        obtain ⟨hq, h⟩ := h
        refine j_iald dX12_toDo_197 (h3 38 (by decide)) rfl hq ?_
        refine j_invV (As := [.inl (M (3, 0, 37) l3.toNatClampNeg), .inl (M (3, 0, 38) l3.toNatClampNeg)]) dX12_toDo_198 msRX12_491 mbX12_runs rfl rfl (Nat.le_of_ble_eq_true rfl) (Nat.le_of_ble_eq_true rfl) (by omega) (h3 0 (by decide)) rfl rfl (k_X12_runs (d := d + 0) h3 h) ?_
        rintro _ zM2 zN3 ⟨zr1, rfl, h⟩
        refine j_lconst (v := 1) dX12_toDo_201 (by decide) ?_
        refine j_lcmp_ne (tgt := 208) dX12_toDo_202 dX12_toDo_203 (by decide) (fun hc => ?_) (fun hc => ?_)
        · replace h := h.1 hc
          refine j_iinc 2 dX12_toDo_208 rfl rfl (by decide) rfl ?_
          refine j_goto (tgt := 155) dX12_toDo_211 (by decide) ?_
          refine j_sub [1, 2, 0] rfl ?_
          exact zih _ _ _ _ h
        · replace h := h.2 hc
          refine j_iload_n 2 dX12_toDo_206 rfl ?_
          exact j_iret dX12_toDo_207 rfl ⟨_, rfl, h⟩
def w_X12_toDo (a1 : Int32) (M : am_I) (N : am_N) (post : Int32 → am_I → am_N → Prop) : Prop :=
  w_X12_has a1 M N (fun zr1 zM2 zN3 => ((zr1 = 0 → post (-1) zM2 zN3) ∧ (¬ zr1 = 0 → ((¬ (zM2 (3, 0, 0) 45) = 0 → w_X12_weeds a1 zM2 zN3 (fun zr4 zM5 zN6 => vp_in (64 + a1) 1635 ∧ vp_in (128 + a1) 1635 ∧ vp_in (384 + a1) 1635 ∧ vp_in (256 + a1) 1635 ∧ vp_in (320 + a1) 1635 ∧ w_X12_nextRain zM5 (am_ul (am_ul (am_ul (am_ul (am_ul (am_ul zN6 (3, 0, 42) 0 zr4.toInt64) (3, 0, 42) 1 ((zM5 (3, 0, 1) (64 + a1).toNatClampNeg).toInt64)) (3, 0, 42) 2 ((zM5 (3, 0, 1) (128 + a1).toNatClampNeg).toInt64)) (3, 0, 42) 3 ((zM5 (3, 0, 1) (384 + a1).toNatClampNeg).toInt64)) (3, 0, 42) 4 ((zM5 (3, 0, 1) (256 + a1).toNatClampNeg).toInt64)) (3, 0, 42) 5 ((zM5 (3, 0, 1) (320 + a1).toNatClampNeg).toInt64)) (fun zr7 zM8 zN9 => vp_in (448 + a1) 1635 ∧ ∀ zv10 : Int32, zv10 = (zM8 (3, 0, 0) 45) - 1 → ∃ n, w_X12_toDo_p155 post n zv10 (24 * zv10) zM8 (am_ul (am_ul zN9 (3, 0, 42) 6 zr7.toInt64) (3, 0, 42) 7 ((zM8 (3, 0, 1) (448 + a1).toNatClampNeg).toInt64))))) ∧ ((zM2 (3, 0, 0) 45) = 0 → post (-1) zM2 zN3)))))
set_option maxRecDepth 10000 in
theorem k_X12_toDo {d : Nat} {dm : List am_C} (h3 : am_d3 dm) {a1 : Int32} {M : am_I} {N : am_N} {post : Int32 → am_I → am_N → Prop} (h : w_X12_toDo a1 M N post) : jg (d + 5) mX12_toDo dm 0 [(0, .inr (.inr (3, 0, 0))), (1, .inl a1)] [] M N (am_pi post) := by
  refine j_aload_n 0 dX12_toDo_0 rfl ?_
  refine j_iload_n 1 dX12_toDo_1 rfl ?_
  refine j_invV (As := [.inl a1]) dX12_toDo_2 msRX12_228 mbX12_has rfl rfl (Nat.le_of_ble_eq_true rfl) (Nat.le_of_ble_eq_true rfl) (by omega) (h3 0 (by decide)) rfl rfl (k_X12_has (d := d + 1) h3 h) ?_
  rintro _ zM2 zN3 ⟨zr1, rfl, h⟩
  refine j_if_eq (tgt := 15) dX12_toDo_5 (by decide) (fun hc => ?_) (fun hc => ?_)
  · replace h := h.1 hc
    refine j_iconst (v := (-1)) dX12_toDo_15 (by decide) ?_
    exact j_iret dX12_toDo_16 rfl ⟨_, rfl, h⟩
  · replace h := h.2 hc
    refine j_aload_n 0 dX12_toDo_8 rfl ?_
    refine j_getI dX12_toDo_9 fsRX12_461 (h3 0 (by decide)) rfl ?_
    refine j_if_ne (tgt := 17) dX12_toDo_12 (by decide) (fun hc => ?_) (fun hc => ?_)
    · replace h := h.1 hc
      refine j_aload_n 0 dX12_toDo_17 rfl ?_
      refine j_getR (b := (3, 0, 42)) dX12_toDo_18 fsRX12_142 (h3 0 (by decide)) rfl rfl ?_
      refine j_iconst (v := 0) dX12_toDo_21 (by decide) ?_
      refine j_aload_n 0 dX12_toDo_22 rfl ?_
      refine j_iload_n 1 dX12_toDo_23 rfl ?_
      refine j_invV (As := [.inl a1]) dX12_toDo_24 msRX12_322 mbX12_weeds rfl rfl (Nat.le_of_ble_eq_true rfl) (Nat.le_of_ble_eq_true rfl) (by omega) (h3 0 (by decide)) rfl rfl (k_X12_weeds (d := d + 3) h3 h) ?_
      rintro _ zM5 zN6 ⟨zr4, rfl, h⟩
      refine j_i2l dX12_toDo_27 ?_
      refine j_last dX12_toDo_28 (h3 42 (by decide)) rfl (by unfold vp_in; decide) ?_
      refine j_aload_n 0 dX12_toDo_29 rfl ?_
      refine j_getR (b := (3, 0, 42)) dX12_toDo_30 fsRX12_142 (h3 0 (by decide)) rfl rfl ?_
      refine j_iconst (v := 1) dX12_toDo_33 (by decide) ?_
      refine j_aload_n 0 dX12_toDo_34 rfl ?_
      refine j_getR (b := (3, 0, 1)) dX12_toDo_35 fsRX12_7 (h3 0 (by decide)) rfl rfl ?_
      refine j_bipush (v := 64) dX12_toDo_38 (by decide) ?_
      refine j_iload_n 1 dX12_toDo_40 rfl ?_
      refine j_iadd dX12_toDo_41 ?_
      obtain ⟨hq, h⟩ := h
      refine j_iald dX12_toDo_42 (h3 1 (by decide)) rfl hq ?_
      refine j_i2l dX12_toDo_43 ?_
      refine j_last dX12_toDo_44 (h3 42 (by decide)) rfl (by unfold vp_in; decide) ?_
      refine j_aload_n 0 dX12_toDo_45 rfl ?_
      refine j_getR (b := (3, 0, 42)) dX12_toDo_46 fsRX12_142 (h3 0 (by decide)) rfl rfl ?_
      refine j_iconst (v := 2) dX12_toDo_49 (by decide) ?_
      refine j_aload_n 0 dX12_toDo_50 rfl ?_
      refine j_getR (b := (3, 0, 1)) dX12_toDo_51 fsRX12_7 (h3 0 (by decide)) rfl rfl ?_
      refine j_sipush (v := 128) dX12_toDo_54 (by decide) ?_
      refine j_iload_n 1 dX12_toDo_57 rfl ?_
      refine j_iadd dX12_toDo_58 ?_
      obtain ⟨hq, h⟩ := h
      refine j_iald dX12_toDo_59 (h3 1 (by decide)) rfl hq ?_
      refine j_i2l dX12_toDo_60 ?_
      refine j_last dX12_toDo_61 (h3 42 (by decide)) rfl (by unfold vp_in; decide) ?_
      refine j_aload_n 0 dX12_toDo_62 rfl ?_
      refine j_getR (b := (3, 0, 42)) dX12_toDo_63 fsRX12_142 (h3 0 (by decide)) rfl rfl ?_
      refine j_iconst (v := 3) dX12_toDo_66 (by decide) ?_
      refine j_aload_n 0 dX12_toDo_67 rfl ?_
      refine j_getR (b := (3, 0, 1)) dX12_toDo_68 fsRX12_7 (h3 0 (by decide)) rfl rfl ?_
      refine j_sipush (v := 384) dX12_toDo_71 (by decide) ?_
      refine j_iload_n 1 dX12_toDo_74 rfl ?_
      refine j_iadd dX12_toDo_75 ?_
      obtain ⟨hq, h⟩ := h
      refine j_iald dX12_toDo_76 (h3 1 (by decide)) rfl hq ?_
      refine j_i2l dX12_toDo_77 ?_
      refine j_last dX12_toDo_78 (h3 42 (by decide)) rfl (by unfold vp_in; decide) ?_
      refine j_aload_n 0 dX12_toDo_79 rfl ?_
      refine j_getR (b := (3, 0, 42)) dX12_toDo_80 fsRX12_142 (h3 0 (by decide)) rfl rfl ?_
      refine j_iconst (v := 4) dX12_toDo_83 (by decide) ?_
      refine j_aload_n 0 dX12_toDo_84 rfl ?_
      refine j_getR (b := (3, 0, 1)) dX12_toDo_85 fsRX12_7 (h3 0 (by decide)) rfl rfl ?_
      refine j_sipush (v := 256) dX12_toDo_88 (by decide) ?_
      refine j_iload_n 1 dX12_toDo_91 rfl ?_
      refine j_iadd dX12_toDo_92 ?_
      obtain ⟨hq, h⟩ := h
      refine j_iald dX12_toDo_93 (h3 1 (by decide)) rfl hq ?_
      refine j_i2l dX12_toDo_94 ?_
      refine j_last dX12_toDo_95 (h3 42 (by decide)) rfl (by unfold vp_in; decide) ?_
      refine j_aload_n 0 dX12_toDo_96 rfl ?_
      refine j_getR (b := (3, 0, 42)) dX12_toDo_97 fsRX12_142 (h3 0 (by decide)) rfl rfl ?_
      refine j_iconst (v := 5) dX12_toDo_100 (by decide) ?_
      refine j_aload_n 0 dX12_toDo_101 rfl ?_
      refine j_getR (b := (3, 0, 1)) dX12_toDo_102 fsRX12_7 (h3 0 (by decide)) rfl rfl ?_
      refine j_sipush (v := 320) dX12_toDo_105 (by decide) ?_
      refine j_iload_n 1 dX12_toDo_108 rfl ?_
      refine j_iadd dX12_toDo_109 ?_
      obtain ⟨hq, h⟩ := h
      refine j_iald dX12_toDo_110 (h3 1 (by decide)) rfl hq ?_
      refine j_i2l dX12_toDo_111 ?_
      refine j_last dX12_toDo_112 (h3 42 (by decide)) rfl (by unfold vp_in; decide) ?_
      refine j_aload_n 0 dX12_toDo_113 rfl ?_
      refine j_getR (b := (3, 0, 42)) dX12_toDo_114 fsRX12_142 (h3 0 (by decide)) rfl rfl ?_
      refine j_bipush (v := 6) dX12_toDo_117 (by decide) ?_
      refine j_aload_n 0 dX12_toDo_119 rfl ?_
      refine j_invV (As := []) dX12_toDo_120 msRX12_488 mbX12_nextRain rfl rfl (Nat.le_of_ble_eq_true rfl) (Nat.le_of_ble_eq_true rfl) (by omega) (h3 0 (by decide)) rfl rfl (k_X12_nextRain (d := d + 2) h3 h) ?_
      rintro _ zM8 zN9 ⟨zr7, rfl, h⟩
      refine j_i2l dX12_toDo_123 ?_
      refine j_last dX12_toDo_124 (h3 42 (by decide)) rfl (by unfold vp_in; decide) ?_
      refine j_aload_n 0 dX12_toDo_125 rfl ?_
      refine j_getR (b := (3, 0, 42)) dX12_toDo_126 fsRX12_142 (h3 0 (by decide)) rfl rfl ?_
      refine j_bipush (v := 7) dX12_toDo_129 (by decide) ?_
      refine j_aload_n 0 dX12_toDo_131 rfl ?_
      refine j_getR (b := (3, 0, 1)) dX12_toDo_132 fsRX12_7 (h3 0 (by decide)) rfl rfl ?_
      refine j_sipush (v := 448) dX12_toDo_135 (by decide) ?_
      refine j_iload_n 1 dX12_toDo_138 rfl ?_
      refine j_iadd dX12_toDo_139 ?_
      obtain ⟨hq, h⟩ := h
      refine j_iald dX12_toDo_140 (h3 1 (by decide)) rfl hq ?_
      refine j_i2l dX12_toDo_141 ?_
      refine j_last dX12_toDo_142 (h3 42 (by decide)) rfl (by unfold vp_in; decide) ?_
      refine j_aload_n 0 dX12_toDo_143 rfl ?_
      refine j_getI dX12_toDo_144 fsRX12_461 (h3 0 (by decide)) rfl ?_
      refine j_iconst (v := 1) dX12_toDo_147 (by decide) ?_
      refine j_isub dX12_toDo_148 ?_
      refine j_topi (fun zv10 hzv10 => ?_)
      replace h := h zv10 hzv10
      refine j_istore_n dX12_toDo_149 (by decide) rfl ?_
      refine j_bipush (v := 24) dX12_toDo_150 (by decide) ?_
      refine j_iload_n 0 dX12_toDo_152 rfl ?_
      refine j_imul dX12_toDo_153 ?_
      refine j_istore_n dX12_toDo_154 (by decide) rfl ?_
      refine j_sub [2, 1, 0] rfl ?_
      obtain ⟨n, h⟩ := h
      exact k_X12_toDo_p155 h3 n _ _ _ _ h
    · replace h := h.2 hc
      refine j_iconst (v := (-1)) dX12_toDo_15 (by decide) ?_
      exact j_iret dX12_toDo_16 rfl ⟨_, rfl, h⟩
def w_X12_act (a1 : Int32) (a2 : Int32) (M : am_I) (N : am_N) (post : Int32 → am_I → am_N → Prop) : Prop :=
  w_X12_toDo a1 M N (fun zr1 zM2 zN3 => ((¬ zr1 = (-1) → ((¬ a2 = 0 → ((¬ a2 = 1 → ((¬ a2 = 2 → post (-2000000000) zM2 zN3) ∧ (a2 = 2 → vp_in zr1 216 ∧ ((¬ (zM2 (3, 0, 35) zr1.toNatClampNeg) = 3 → post 0 zM2 zN3) ∧ ((zM2 (3, 0, 35) zr1.toNatClampNeg) = 3 → vp_in zr1 216 ∧ vp_in zr1 216 ∧ w_X12_runs (zM2 (3, 0, 36) zr1.toNatClampNeg) (zM2 (3, 0, 37) zr1.toNatClampNeg) zM2 zN3 (fun zr4 zM5 zN6 => post zr4.toInt32 zM5 zN6)))))) ∧ (a2 = 1 → vp_in zr1 216 ∧ post (zM2 (3, 0, 35) zr1.toNatClampNeg) zM2 zN3))) ∧ (a2 = 0 → post (am_rem zr1 24) zM2 zN3))) ∧ (zr1 = (-1) → post (-2000000000) zM2 zN3)))
set_option maxRecDepth 10000 in
theorem k_X12_act {d : Nat} {dm : List am_C} (h3 : am_d3 dm) {a1 : Int32} {a2 : Int32} {M : am_I} {N : am_N} {post : Int32 → am_I → am_N → Prop} (h : w_X12_act a1 a2 M N post) : jg (d + 6) mX12_act dm 0 [(0, .inr (.inr (3, 0, 0))), (1, .inl a1), (2, .inl a2)] [] M N (am_pi post) := by
  refine j_aload_n 0 dX12_act_0 rfl ?_
  refine j_iload_n 1 dX12_act_1 rfl ?_
  refine j_invV (As := [.inl a1]) dX12_act_2 msRX12_495 mbX12_toDo rfl rfl (Nat.le_of_ble_eq_true rfl) (Nat.le_of_ble_eq_true rfl) (by omega) (h3 0 (by decide)) rfl rfl (k_X12_toDo (d := d + 0) h3 h) ?_
  rintro _ zM2 zN3 ⟨zr1, rfl, h⟩
  refine j_istore_n dX12_act_5 (by decide) rfl ?_
  refine j_iload_n 0 dX12_act_6 rfl ?_
  refine j_iconst (v := (-1)) dX12_act_7 (by decide) ?_
  refine j_icmp_ne (tgt := 15) dX12_act_8 (by decide) (fun hc => ?_) (fun hc => ?_)
  · replace h := h.1 hc
    refine j_iload_n 3 dX12_act_15 rfl ?_
    refine j_if_ne (tgt := 26) dX12_act_16 (by decide) (fun hc => ?_) (fun hc => ?_)
    · replace h := h.1 hc
      refine j_iload_n 3 dX12_act_26 rfl ?_
      refine j_iconst (v := 1) dX12_act_27 (by decide) ?_
      refine j_icmp_ne (tgt := 40) dX12_act_28 (by decide) (fun hc => ?_) (fun hc => ?_)
      · replace h := h.1 hc
        refine j_iload_n 3 dX12_act_40 rfl ?_
        refine j_iconst (v := 2) dX12_act_41 (by decide) ?_
        refine j_icmp_ne (tgt := 79) dX12_act_42 (by decide) (fun hc => ?_) (fun hc => ?_)
        · replace h := h.1 hc
          refine j_ldcw (v := (-2000000000)) dX12_act_79 cw_1819 ?_
          exact j_iret dX12_act_82 rfl ⟨_, rfl, h⟩
        · replace h := h.2 hc
          refine j_aload_n 1 dX12_act_45 rfl ?_
          refine j_getR (b := (3, 0, 35)) dX12_act_46 fsRX12_121 (h3 0 (by decide)) rfl rfl ?_
          refine j_iload_n 0 dX12_act_49 rfl ?_
          obtain ⟨hq, h⟩ := h
          refine j_iald dX12_act_50 (h3 35 (by decide)) rfl hq ?_
          refine j_iconst (v := 3) dX12_act_51 (by decide) ?_
          refine j_icmp_ne (tgt := 75) dX12_act_52 (by decide) (fun hc => ?_) (fun hc => ?_)
          · replace h := h.1 hc
            refine j_iconst (v := 0) dX12_act_75 (by decide) ?_
            refine j_goto (tgt := 82) dX12_act_76 (by decide) ?_
            exact j_iret dX12_act_82 rfl ⟨_, rfl, h⟩
          · replace h := h.2 hc
            refine j_aload_n 1 dX12_act_55 rfl ?_
            refine j_aload_n 1 dX12_act_56 rfl ?_
            refine j_getR (b := (3, 0, 36)) dX12_act_57 fsRX12_124 (h3 0 (by decide)) rfl rfl ?_
            refine j_iload_n 0 dX12_act_60 rfl ?_
            obtain ⟨hq, h⟩ := h
            refine j_iald dX12_act_61 (h3 36 (by decide)) rfl hq ?_
            refine j_aload_n 1 dX12_act_62 rfl ?_
            refine j_getR (b := (3, 0, 37)) dX12_act_63 fsRX12_127 (h3 0 (by decide)) rfl rfl ?_
            refine j_iload_n 0 dX12_act_66 rfl ?_
            obtain ⟨hq, h⟩ := h
            refine j_iald dX12_act_67 (h3 37 (by decide)) rfl hq ?_
            refine j_invV (As := [.inl (zM2 (3, 0, 36) zr1.toNatClampNeg), .inl (zM2 (3, 0, 37) zr1.toNatClampNeg)]) dX12_act_68 msRX12_491 mbX12_runs rfl rfl (Nat.le_of_ble_eq_true rfl) (Nat.le_of_ble_eq_true rfl) (by omega) (h3 0 (by decide)) rfl rfl (k_X12_runs (d := d + 1) h3 h) ?_
            rintro _ zM5 zN6 ⟨zr4, rfl, h⟩
            refine j_l2i dX12_act_71 ?_
            refine j_goto (tgt := 82) dX12_act_72 (by decide) ?_
            exact j_iret dX12_act_82 rfl ⟨_, rfl, h⟩
      · replace h := h.2 hc
        refine j_aload_n 1 dX12_act_31 rfl ?_
        refine j_getR (b := (3, 0, 35)) dX12_act_32 fsRX12_121 (h3 0 (by decide)) rfl rfl ?_
        refine j_iload_n 0 dX12_act_35 rfl ?_
        obtain ⟨hq, h⟩ := h
        refine j_iald dX12_act_36 (h3 35 (by decide)) rfl hq ?_
        refine j_goto (tgt := 82) dX12_act_37 (by decide) ?_
        exact j_iret dX12_act_82 rfl ⟨_, rfl, h⟩
    · replace h := h.2 hc
      refine j_iload_n 0 dX12_act_19 rfl ?_
      refine j_bipush (v := 24) dX12_act_20 (by decide) ?_
      refine j_irem dX12_act_22 (by decide) ?_
      refine j_goto (tgt := 82) dX12_act_23 (by decide) ?_
      exact j_iret dX12_act_82 rfl ⟨_, rfl, h⟩
  · replace h := h.2 hc
    refine j_ldcw (v := (-2000000000)) dX12_act_11 cw_1819 ?_
    exact j_iret dX12_act_14 rfl ⟨_, rfl, h⟩
def w_X12_tells (a1 : Int32) (a2 : Int32) (a3 : Int32) (a4 : Int32) (M : am_I) (N : am_N) (post : am_I → am_N → Prop) : Prop :=
  vp_in (M (3, 0, 0) 4) 400 ∧ vp_in ((am_u M (3, 0, 3) (M (3, 0, 0) 4).toNatClampNeg a1) (3, 0, 0) 4) 400 ∧ vp_in ((am_u (am_u M (3, 0, 3) (M (3, 0, 0) 4).toNatClampNeg a1) (3, 0, 4) ((am_u M (3, 0, 3) (M (3, 0, 0) 4).toNatClampNeg a1) (3, 0, 0) 4).toNatClampNeg ((am_u M (3, 0, 3) (M (3, 0, 0) 4).toNatClampNeg a1) (3, 0, 1) 1624)) (3, 0, 0) 4) 400 ∧ vp_in ((am_u (am_u (am_u M (3, 0, 3) (M (3, 0, 0) 4).toNatClampNeg a1) (3, 0, 4) ((am_u M (3, 0, 3) (M (3, 0, 0) 4).toNatClampNeg a1) (3, 0, 0) 4).toNatClampNeg ((am_u M (3, 0, 3) (M (3, 0, 0) 4).toNatClampNeg a1) (3, 0, 1) 1624)) (3, 0, 5) ((am_u (am_u M (3, 0, 3) (M (3, 0, 0) 4).toNatClampNeg a1) (3, 0, 4) ((am_u M (3, 0, 3) (M (3, 0, 0) 4).toNatClampNeg a1) (3, 0, 0) 4).toNatClampNeg ((am_u M (3, 0, 3) (M (3, 0, 0) 4).toNatClampNeg a1) (3, 0, 1) 1624)) (3, 0, 0) 4).toNatClampNeg a2) (3, 0, 0) 4) 400 ∧ vp_in ((am_u (am_u (am_u (am_u M (3, 0, 3) (M (3, 0, 0) 4).toNatClampNeg a1) (3, 0, 4) ((am_u M (3, 0, 3) (M (3, 0, 0) 4).toNatClampNeg a1) (3, 0, 0) 4).toNatClampNeg ((am_u M (3, 0, 3) (M (3, 0, 0) 4).toNatClampNeg a1) (3, 0, 1) 1624)) (3, 0, 5) ((am_u (am_u M (3, 0, 3) (M (3, 0, 0) 4).toNatClampNeg a1) (3, 0, 4) ((am_u M (3, 0, 3) (M (3, 0, 0) 4).toNatClampNeg a1) (3, 0, 0) 4).toNatClampNeg ((am_u M (3, 0, 3) (M (3, 0, 0) 4).toNatClampNeg a1) (3, 0, 1) 1624)) (3, 0, 0) 4).toNatClampNeg a2) (3, 0, 6) ((am_u (am_u (am_u M (3, 0, 3) (M (3, 0, 0) 4).toNatClampNeg a1) (3, 0, 4) ((am_u M (3, 0, 3) (M (3, 0, 0) 4).toNatClampNeg a1) (3, 0, 0) 4).toNatClampNeg ((am_u M (3, 0, 3) (M (3, 0, 0) 4).toNatClampNeg a1) (3, 0, 1) 1624)) (3, 0, 5) ((am_u (am_u M (3, 0, 3) (M (3, 0, 0) 4).toNatClampNeg a1) (3, 0, 4) ((am_u M (3, 0, 3) (M (3, 0, 0) 4).toNatClampNeg a1) (3, 0, 0) 4).toNatClampNeg ((am_u M (3, 0, 3) (M (3, 0, 0) 4).toNatClampNeg a1) (3, 0, 1) 1624)) (3, 0, 0) 4).toNatClampNeg a2) (3, 0, 0) 4).toNatClampNeg a3) (3, 0, 0) 4) 400 ∧ w_X12_does (((am_u (am_u (am_u (am_u (am_u (am_u M (3, 0, 3) (M (3, 0, 0) 4).toNatClampNeg a1) (3, 0, 4) ((am_u M (3, 0, 3) (M (3, 0, 0) 4).toNatClampNeg a1) (3, 0, 0) 4).toNatClampNeg ((am_u M (3, 0, 3) (M (3, 0, 0) 4).toNatClampNeg a1) (3, 0, 1) 1624)) (3, 0, 5) ((am_u (am_u M (3, 0, 3) (M (3, 0, 0) 4).toNatClampNeg a1) (3, 0, 4) ((am_u M (3, 0, 3) (M (3, 0, 0) 4).toNatClampNeg a1) (3, 0, 0) 4).toNatClampNeg ((am_u M (3, 0, 3) (M (3, 0, 0) 4).toNatClampNeg a1) (3, 0, 1) 1624)) (3, 0, 0) 4).toNatClampNeg a2) (3, 0, 6) ((am_u (am_u (am_u M (3, 0, 3) (M (3, 0, 0) 4).toNatClampNeg a1) (3, 0, 4) ((am_u M (3, 0, 3) (M (3, 0, 0) 4).toNatClampNeg a1) (3, 0, 0) 4).toNatClampNeg ((am_u M (3, 0, 3) (M (3, 0, 0) 4).toNatClampNeg a1) (3, 0, 1) 1624)) (3, 0, 5) ((am_u (am_u M (3, 0, 3) (M (3, 0, 0) 4).toNatClampNeg a1) (3, 0, 4) ((am_u M (3, 0, 3) (M (3, 0, 0) 4).toNatClampNeg a1) (3, 0, 0) 4).toNatClampNeg ((am_u M (3, 0, 3) (M (3, 0, 0) 4).toNatClampNeg a1) (3, 0, 1) 1624)) (3, 0, 0) 4).toNatClampNeg a2) (3, 0, 0) 4).toNatClampNeg a3) (3, 0, 7) ((am_u (am_u (am_u (am_u M (3, 0, 3) (M (3, 0, 0) 4).toNatClampNeg a1) (3, 0, 4) ((am_u M (3, 0, 3) (M (3, 0, 0) 4).toNatClampNeg a1) (3, 0, 0) 4).toNatClampNeg ((am_u M (3, 0, 3) (M (3, 0, 0) 4).toNatClampNeg a1) (3, 0, 1) 1624)) (3, 0, 5) ((am_u (am_u M (3, 0, 3) (M (3, 0, 0) 4).toNatClampNeg a1) (3, 0, 4) ((am_u M (3, 0, 3) (M (3, 0, 0) 4).toNatClampNeg a1) (3, 0, 0) 4).toNatClampNeg ((am_u M (3, 0, 3) (M (3, 0, 0) 4).toNatClampNeg a1) (3, 0, 1) 1624)) (3, 0, 0) 4).toNatClampNeg a2) (3, 0, 6) ((am_u (am_u (am_u M (3, 0, 3) (M (3, 0, 0) 4).toNatClampNeg a1) (3, 0, 4) ((am_u M (3, 0, 3) (M (3, 0, 0) 4).toNatClampNeg a1) (3, 0, 0) 4).toNatClampNeg ((am_u M (3, 0, 3) (M (3, 0, 0) 4).toNatClampNeg a1) (3, 0, 1) 1624)) (3, 0, 5) ((am_u (am_u M (3, 0, 3) (M (3, 0, 0) 4).toNatClampNeg a1) (3, 0, 4) ((am_u M (3, 0, 3) (M (3, 0, 0) 4).toNatClampNeg a1) (3, 0, 0) 4).toNatClampNeg ((am_u M (3, 0, 3) (M (3, 0, 0) 4).toNatClampNeg a1) (3, 0, 1) 1624)) (3, 0, 0) 4).toNatClampNeg a2) (3, 0, 0) 4).toNatClampNeg a3) (3, 0, 0) 4).toNatClampNeg a4) (3, 0, 0) 4 (((am_u (am_u (am_u (am_u (am_u M (3, 0, 3) (M (3, 0, 0) 4).toNatClampNeg a1) (3, 0, 4) ((am_u M (3, 0, 3) (M (3, 0, 0) 4).toNatClampNeg a1) (3, 0, 0) 4).toNatClampNeg ((am_u M (3, 0, 3) (M (3, 0, 0) 4).toNatClampNeg a1) (3, 0, 1) 1624)) (3, 0, 5) ((am_u (am_u M (3, 0, 3) (M (3, 0, 0) 4).toNatClampNeg a1) (3, 0, 4) ((am_u M (3, 0, 3) (M (3, 0, 0) 4).toNatClampNeg a1) (3, 0, 0) 4).toNatClampNeg ((am_u M (3, 0, 3) (M (3, 0, 0) 4).toNatClampNeg a1) (3, 0, 1) 1624)) (3, 0, 0) 4).toNatClampNeg a2) (3, 0, 6) ((am_u (am_u (am_u M (3, 0, 3) (M (3, 0, 0) 4).toNatClampNeg a1) (3, 0, 4) ((am_u M (3, 0, 3) (M (3, 0, 0) 4).toNatClampNeg a1) (3, 0, 0) 4).toNatClampNeg ((am_u M (3, 0, 3) (M (3, 0, 0) 4).toNatClampNeg a1) (3, 0, 1) 1624)) (3, 0, 5) ((am_u (am_u M (3, 0, 3) (M (3, 0, 0) 4).toNatClampNeg a1) (3, 0, 4) ((am_u M (3, 0, 3) (M (3, 0, 0) 4).toNatClampNeg a1) (3, 0, 0) 4).toNatClampNeg ((am_u M (3, 0, 3) (M (3, 0, 0) 4).toNatClampNeg a1) (3, 0, 1) 1624)) (3, 0, 0) 4).toNatClampNeg a2) (3, 0, 0) 4).toNatClampNeg a3) (3, 0, 7) ((am_u (am_u (am_u (am_u M (3, 0, 3) (M (3, 0, 0) 4).toNatClampNeg a1) (3, 0, 4) ((am_u M (3, 0, 3) (M (3, 0, 0) 4).toNatClampNeg a1) (3, 0, 0) 4).toNatClampNeg ((am_u M (3, 0, 3) (M (3, 0, 0) 4).toNatClampNeg a1) (3, 0, 1) 1624)) (3, 0, 5) ((am_u (am_u M (3, 0, 3) (M (3, 0, 0) 4).toNatClampNeg a1) (3, 0, 4) ((am_u M (3, 0, 3) (M (3, 0, 0) 4).toNatClampNeg a1) (3, 0, 0) 4).toNatClampNeg ((am_u M (3, 0, 3) (M (3, 0, 0) 4).toNatClampNeg a1) (3, 0, 1) 1624)) (3, 0, 0) 4).toNatClampNeg a2) (3, 0, 6) ((am_u (am_u (am_u M (3, 0, 3) (M (3, 0, 0) 4).toNatClampNeg a1) (3, 0, 4) ((am_u M (3, 0, 3) (M (3, 0, 0) 4).toNatClampNeg a1) (3, 0, 0) 4).toNatClampNeg ((am_u M (3, 0, 3) (M (3, 0, 0) 4).toNatClampNeg a1) (3, 0, 1) 1624)) (3, 0, 5) ((am_u (am_u M (3, 0, 3) (M (3, 0, 0) 4).toNatClampNeg a1) (3, 0, 4) ((am_u M (3, 0, 3) (M (3, 0, 0) 4).toNatClampNeg a1) (3, 0, 0) 4).toNatClampNeg ((am_u M (3, 0, 3) (M (3, 0, 0) 4).toNatClampNeg a1) (3, 0, 1) 1624)) (3, 0, 0) 4).toNatClampNeg a2) (3, 0, 0) 4).toNatClampNeg a3) (3, 0, 0) 4).toNatClampNeg a4) (3, 0, 0) 4) + 1)) (3, 0, 0) 4) - 1) (am_u (am_u (am_u (am_u (am_u (am_u M (3, 0, 3) (M (3, 0, 0) 4).toNatClampNeg a1) (3, 0, 4) ((am_u M (3, 0, 3) (M (3, 0, 0) 4).toNatClampNeg a1) (3, 0, 0) 4).toNatClampNeg ((am_u M (3, 0, 3) (M (3, 0, 0) 4).toNatClampNeg a1) (3, 0, 1) 1624)) (3, 0, 5) ((am_u (am_u M (3, 0, 3) (M (3, 0, 0) 4).toNatClampNeg a1) (3, 0, 4) ((am_u M (3, 0, 3) (M (3, 0, 0) 4).toNatClampNeg a1) (3, 0, 0) 4).toNatClampNeg ((am_u M (3, 0, 3) (M (3, 0, 0) 4).toNatClampNeg a1) (3, 0, 1) 1624)) (3, 0, 0) 4).toNatClampNeg a2) (3, 0, 6) ((am_u (am_u (am_u M (3, 0, 3) (M (3, 0, 0) 4).toNatClampNeg a1) (3, 0, 4) ((am_u M (3, 0, 3) (M (3, 0, 0) 4).toNatClampNeg a1) (3, 0, 0) 4).toNatClampNeg ((am_u M (3, 0, 3) (M (3, 0, 0) 4).toNatClampNeg a1) (3, 0, 1) 1624)) (3, 0, 5) ((am_u (am_u M (3, 0, 3) (M (3, 0, 0) 4).toNatClampNeg a1) (3, 0, 4) ((am_u M (3, 0, 3) (M (3, 0, 0) 4).toNatClampNeg a1) (3, 0, 0) 4).toNatClampNeg ((am_u M (3, 0, 3) (M (3, 0, 0) 4).toNatClampNeg a1) (3, 0, 1) 1624)) (3, 0, 0) 4).toNatClampNeg a2) (3, 0, 0) 4).toNatClampNeg a3) (3, 0, 7) ((am_u (am_u (am_u (am_u M (3, 0, 3) (M (3, 0, 0) 4).toNatClampNeg a1) (3, 0, 4) ((am_u M (3, 0, 3) (M (3, 0, 0) 4).toNatClampNeg a1) (3, 0, 0) 4).toNatClampNeg ((am_u M (3, 0, 3) (M (3, 0, 0) 4).toNatClampNeg a1) (3, 0, 1) 1624)) (3, 0, 5) ((am_u (am_u M (3, 0, 3) (M (3, 0, 0) 4).toNatClampNeg a1) (3, 0, 4) ((am_u M (3, 0, 3) (M (3, 0, 0) 4).toNatClampNeg a1) (3, 0, 0) 4).toNatClampNeg ((am_u M (3, 0, 3) (M (3, 0, 0) 4).toNatClampNeg a1) (3, 0, 1) 1624)) (3, 0, 0) 4).toNatClampNeg a2) (3, 0, 6) ((am_u (am_u (am_u M (3, 0, 3) (M (3, 0, 0) 4).toNatClampNeg a1) (3, 0, 4) ((am_u M (3, 0, 3) (M (3, 0, 0) 4).toNatClampNeg a1) (3, 0, 0) 4).toNatClampNeg ((am_u M (3, 0, 3) (M (3, 0, 0) 4).toNatClampNeg a1) (3, 0, 1) 1624)) (3, 0, 5) ((am_u (am_u M (3, 0, 3) (M (3, 0, 0) 4).toNatClampNeg a1) (3, 0, 4) ((am_u M (3, 0, 3) (M (3, 0, 0) 4).toNatClampNeg a1) (3, 0, 0) 4).toNatClampNeg ((am_u M (3, 0, 3) (M (3, 0, 0) 4).toNatClampNeg a1) (3, 0, 1) 1624)) (3, 0, 0) 4).toNatClampNeg a2) (3, 0, 0) 4).toNatClampNeg a3) (3, 0, 0) 4).toNatClampNeg a4) (3, 0, 0) 4 (((am_u (am_u (am_u (am_u (am_u M (3, 0, 3) (M (3, 0, 0) 4).toNatClampNeg a1) (3, 0, 4) ((am_u M (3, 0, 3) (M (3, 0, 0) 4).toNatClampNeg a1) (3, 0, 0) 4).toNatClampNeg ((am_u M (3, 0, 3) (M (3, 0, 0) 4).toNatClampNeg a1) (3, 0, 1) 1624)) (3, 0, 5) ((am_u (am_u M (3, 0, 3) (M (3, 0, 0) 4).toNatClampNeg a1) (3, 0, 4) ((am_u M (3, 0, 3) (M (3, 0, 0) 4).toNatClampNeg a1) (3, 0, 0) 4).toNatClampNeg ((am_u M (3, 0, 3) (M (3, 0, 0) 4).toNatClampNeg a1) (3, 0, 1) 1624)) (3, 0, 0) 4).toNatClampNeg a2) (3, 0, 6) ((am_u (am_u (am_u M (3, 0, 3) (M (3, 0, 0) 4).toNatClampNeg a1) (3, 0, 4) ((am_u M (3, 0, 3) (M (3, 0, 0) 4).toNatClampNeg a1) (3, 0, 0) 4).toNatClampNeg ((am_u M (3, 0, 3) (M (3, 0, 0) 4).toNatClampNeg a1) (3, 0, 1) 1624)) (3, 0, 5) ((am_u (am_u M (3, 0, 3) (M (3, 0, 0) 4).toNatClampNeg a1) (3, 0, 4) ((am_u M (3, 0, 3) (M (3, 0, 0) 4).toNatClampNeg a1) (3, 0, 0) 4).toNatClampNeg ((am_u M (3, 0, 3) (M (3, 0, 0) 4).toNatClampNeg a1) (3, 0, 1) 1624)) (3, 0, 0) 4).toNatClampNeg a2) (3, 0, 0) 4).toNatClampNeg a3) (3, 0, 7) ((am_u (am_u (am_u (am_u M (3, 0, 3) (M (3, 0, 0) 4).toNatClampNeg a1) (3, 0, 4) ((am_u M (3, 0, 3) (M (3, 0, 0) 4).toNatClampNeg a1) (3, 0, 0) 4).toNatClampNeg ((am_u M (3, 0, 3) (M (3, 0, 0) 4).toNatClampNeg a1) (3, 0, 1) 1624)) (3, 0, 5) ((am_u (am_u M (3, 0, 3) (M (3, 0, 0) 4).toNatClampNeg a1) (3, 0, 4) ((am_u M (3, 0, 3) (M (3, 0, 0) 4).toNatClampNeg a1) (3, 0, 0) 4).toNatClampNeg ((am_u M (3, 0, 3) (M (3, 0, 0) 4).toNatClampNeg a1) (3, 0, 1) 1624)) (3, 0, 0) 4).toNatClampNeg a2) (3, 0, 6) ((am_u (am_u (am_u M (3, 0, 3) (M (3, 0, 0) 4).toNatClampNeg a1) (3, 0, 4) ((am_u M (3, 0, 3) (M (3, 0, 0) 4).toNatClampNeg a1) (3, 0, 0) 4).toNatClampNeg ((am_u M (3, 0, 3) (M (3, 0, 0) 4).toNatClampNeg a1) (3, 0, 1) 1624)) (3, 0, 5) ((am_u (am_u M (3, 0, 3) (M (3, 0, 0) 4).toNatClampNeg a1) (3, 0, 4) ((am_u M (3, 0, 3) (M (3, 0, 0) 4).toNatClampNeg a1) (3, 0, 0) 4).toNatClampNeg ((am_u M (3, 0, 3) (M (3, 0, 0) 4).toNatClampNeg a1) (3, 0, 1) 1624)) (3, 0, 0) 4).toNatClampNeg a2) (3, 0, 0) 4).toNatClampNeg a3) (3, 0, 0) 4).toNatClampNeg a4) (3, 0, 0) 4) + 1)) N (fun zM1 zN2 => post zM1 zN2)
set_option maxRecDepth 10000 in
theorem k_X12_tells {d : Nat} {dm : List am_C} (h3 : am_d3 dm) {a1 : Int32} {a2 : Int32} {a3 : Int32} {a4 : Int32} {M : am_I} {N : am_N} {post : am_I → am_N → Prop} (h : w_X12_tells a1 a2 a3 a4 M N post) : jg (d + 4) mX12_tells dm 0 [(0, .inr (.inr (3, 0, 0))), (1, .inl a1), (2, .inl a2), (3, .inl a3), (4, .inl a4)] [] M N (am_pv post) := by
  refine j_aload_n 0 dX12_tells_0 rfl ?_
  refine j_getR (b := (3, 0, 3)) dX12_tells_1 fsRX12_16 (h3 0 (by decide)) rfl rfl ?_
  refine j_aload_n 0 dX12_tells_4 rfl ?_
  refine j_getI dX12_tells_5 fsRX12_175 (h3 0 (by decide)) rfl ?_
  refine j_iload_n 1 dX12_tells_8 rfl ?_
  obtain ⟨hq, h⟩ := h
  refine j_iast dX12_tells_9 (h3 3 (by decide)) rfl hq ?_
  refine j_aload_n 0 dX12_tells_10 rfl ?_
  refine j_getR (b := (3, 0, 4)) dX12_tells_11 fsRX12_19 (h3 0 (by decide)) rfl rfl ?_
  refine j_aload_n 0 dX12_tells_14 rfl ?_
  refine j_getI dX12_tells_15 fsRX12_175 (h3 0 (by decide)) rfl ?_
  refine j_aload_n 0 dX12_tells_18 rfl ?_
  refine j_getR (b := (3, 0, 1)) dX12_tells_19 fsRX12_7 (h3 0 (by decide)) rfl rfl ?_
  refine j_sipush (v := 1624) dX12_tells_22 (by decide) ?_
  refine j_iald dX12_tells_25 (h3 1 (by decide)) rfl (by unfold vp_in; decide) ?_
  obtain ⟨hq, h⟩ := h
  refine j_iast dX12_tells_26 (h3 4 (by decide)) rfl hq ?_
  refine j_aload_n 0 dX12_tells_27 rfl ?_
  refine j_getR (b := (3, 0, 5)) dX12_tells_28 fsRX12_22 (h3 0 (by decide)) rfl rfl ?_
  refine j_aload_n 0 dX12_tells_31 rfl ?_
  refine j_getI dX12_tells_32 fsRX12_175 (h3 0 (by decide)) rfl ?_
  refine j_iload_n 2 dX12_tells_35 rfl ?_
  obtain ⟨hq, h⟩ := h
  refine j_iast dX12_tells_36 (h3 5 (by decide)) rfl hq ?_
  refine j_aload_n 0 dX12_tells_37 rfl ?_
  refine j_getR (b := (3, 0, 6)) dX12_tells_38 fsRX12_25 (h3 0 (by decide)) rfl rfl ?_
  refine j_aload_n 0 dX12_tells_41 rfl ?_
  refine j_getI dX12_tells_42 fsRX12_175 (h3 0 (by decide)) rfl ?_
  refine j_iload_n 3 dX12_tells_45 rfl ?_
  obtain ⟨hq, h⟩ := h
  refine j_iast dX12_tells_46 (h3 6 (by decide)) rfl hq ?_
  refine j_aload_n 0 dX12_tells_47 rfl ?_
  refine j_getR (b := (3, 0, 7)) dX12_tells_48 fsRX12_28 (h3 0 (by decide)) rfl rfl ?_
  refine j_aload_n 0 dX12_tells_51 rfl ?_
  refine j_getI dX12_tells_52 fsRX12_175 (h3 0 (by decide)) rfl ?_
  refine j_iload 4 dX12_tells_55 rfl ?_
  obtain ⟨hq, h⟩ := h
  refine j_iast dX12_tells_57 (h3 7 (by decide)) rfl hq ?_
  refine j_aload_n 0 dX12_tells_58 rfl ?_
  refine j_dup dX12_tells_59 rfl ?_
  refine j_getI dX12_tells_60 fsRX12_175 (h3 0 (by decide)) rfl ?_
  refine j_iconst (v := 1) dX12_tells_63 (by decide) ?_
  refine j_iadd dX12_tells_64 ?_
  refine j_putI dX12_tells_65 fwRX12_175 (h3 0 (by decide)) rfl ?_
  refine j_aload_n 0 dX12_tells_68 rfl ?_
  refine j_aload_n 0 dX12_tells_69 rfl ?_
  refine j_getI dX12_tells_70 fsRX12_175 (h3 0 (by decide)) rfl ?_
  refine j_iconst (v := 1) dX12_tells_73 (by decide) ?_
  refine j_isub dX12_tells_74 ?_
  refine j_invV (As := [.inl (((am_u (am_u (am_u (am_u (am_u (am_u M (3, 0, 3) (M (3, 0, 0) 4).toNatClampNeg a1) (3, 0, 4) ((am_u M (3, 0, 3) (M (3, 0, 0) 4).toNatClampNeg a1) (3, 0, 0) 4).toNatClampNeg ((am_u M (3, 0, 3) (M (3, 0, 0) 4).toNatClampNeg a1) (3, 0, 1) 1624)) (3, 0, 5) ((am_u (am_u M (3, 0, 3) (M (3, 0, 0) 4).toNatClampNeg a1) (3, 0, 4) ((am_u M (3, 0, 3) (M (3, 0, 0) 4).toNatClampNeg a1) (3, 0, 0) 4).toNatClampNeg ((am_u M (3, 0, 3) (M (3, 0, 0) 4).toNatClampNeg a1) (3, 0, 1) 1624)) (3, 0, 0) 4).toNatClampNeg a2) (3, 0, 6) ((am_u (am_u (am_u M (3, 0, 3) (M (3, 0, 0) 4).toNatClampNeg a1) (3, 0, 4) ((am_u M (3, 0, 3) (M (3, 0, 0) 4).toNatClampNeg a1) (3, 0, 0) 4).toNatClampNeg ((am_u M (3, 0, 3) (M (3, 0, 0) 4).toNatClampNeg a1) (3, 0, 1) 1624)) (3, 0, 5) ((am_u (am_u M (3, 0, 3) (M (3, 0, 0) 4).toNatClampNeg a1) (3, 0, 4) ((am_u M (3, 0, 3) (M (3, 0, 0) 4).toNatClampNeg a1) (3, 0, 0) 4).toNatClampNeg ((am_u M (3, 0, 3) (M (3, 0, 0) 4).toNatClampNeg a1) (3, 0, 1) 1624)) (3, 0, 0) 4).toNatClampNeg a2) (3, 0, 0) 4).toNatClampNeg a3) (3, 0, 7) ((am_u (am_u (am_u (am_u M (3, 0, 3) (M (3, 0, 0) 4).toNatClampNeg a1) (3, 0, 4) ((am_u M (3, 0, 3) (M (3, 0, 0) 4).toNatClampNeg a1) (3, 0, 0) 4).toNatClampNeg ((am_u M (3, 0, 3) (M (3, 0, 0) 4).toNatClampNeg a1) (3, 0, 1) 1624)) (3, 0, 5) ((am_u (am_u M (3, 0, 3) (M (3, 0, 0) 4).toNatClampNeg a1) (3, 0, 4) ((am_u M (3, 0, 3) (M (3, 0, 0) 4).toNatClampNeg a1) (3, 0, 0) 4).toNatClampNeg ((am_u M (3, 0, 3) (M (3, 0, 0) 4).toNatClampNeg a1) (3, 0, 1) 1624)) (3, 0, 0) 4).toNatClampNeg a2) (3, 0, 6) ((am_u (am_u (am_u M (3, 0, 3) (M (3, 0, 0) 4).toNatClampNeg a1) (3, 0, 4) ((am_u M (3, 0, 3) (M (3, 0, 0) 4).toNatClampNeg a1) (3, 0, 0) 4).toNatClampNeg ((am_u M (3, 0, 3) (M (3, 0, 0) 4).toNatClampNeg a1) (3, 0, 1) 1624)) (3, 0, 5) ((am_u (am_u M (3, 0, 3) (M (3, 0, 0) 4).toNatClampNeg a1) (3, 0, 4) ((am_u M (3, 0, 3) (M (3, 0, 0) 4).toNatClampNeg a1) (3, 0, 0) 4).toNatClampNeg ((am_u M (3, 0, 3) (M (3, 0, 0) 4).toNatClampNeg a1) (3, 0, 1) 1624)) (3, 0, 0) 4).toNatClampNeg a2) (3, 0, 0) 4).toNatClampNeg a3) (3, 0, 0) 4).toNatClampNeg a4) (3, 0, 0) 4 (((am_u (am_u (am_u (am_u (am_u M (3, 0, 3) (M (3, 0, 0) 4).toNatClampNeg a1) (3, 0, 4) ((am_u M (3, 0, 3) (M (3, 0, 0) 4).toNatClampNeg a1) (3, 0, 0) 4).toNatClampNeg ((am_u M (3, 0, 3) (M (3, 0, 0) 4).toNatClampNeg a1) (3, 0, 1) 1624)) (3, 0, 5) ((am_u (am_u M (3, 0, 3) (M (3, 0, 0) 4).toNatClampNeg a1) (3, 0, 4) ((am_u M (3, 0, 3) (M (3, 0, 0) 4).toNatClampNeg a1) (3, 0, 0) 4).toNatClampNeg ((am_u M (3, 0, 3) (M (3, 0, 0) 4).toNatClampNeg a1) (3, 0, 1) 1624)) (3, 0, 0) 4).toNatClampNeg a2) (3, 0, 6) ((am_u (am_u (am_u M (3, 0, 3) (M (3, 0, 0) 4).toNatClampNeg a1) (3, 0, 4) ((am_u M (3, 0, 3) (M (3, 0, 0) 4).toNatClampNeg a1) (3, 0, 0) 4).toNatClampNeg ((am_u M (3, 0, 3) (M (3, 0, 0) 4).toNatClampNeg a1) (3, 0, 1) 1624)) (3, 0, 5) ((am_u (am_u M (3, 0, 3) (M (3, 0, 0) 4).toNatClampNeg a1) (3, 0, 4) ((am_u M (3, 0, 3) (M (3, 0, 0) 4).toNatClampNeg a1) (3, 0, 0) 4).toNatClampNeg ((am_u M (3, 0, 3) (M (3, 0, 0) 4).toNatClampNeg a1) (3, 0, 1) 1624)) (3, 0, 0) 4).toNatClampNeg a2) (3, 0, 0) 4).toNatClampNeg a3) (3, 0, 7) ((am_u (am_u (am_u (am_u M (3, 0, 3) (M (3, 0, 0) 4).toNatClampNeg a1) (3, 0, 4) ((am_u M (3, 0, 3) (M (3, 0, 0) 4).toNatClampNeg a1) (3, 0, 0) 4).toNatClampNeg ((am_u M (3, 0, 3) (M (3, 0, 0) 4).toNatClampNeg a1) (3, 0, 1) 1624)) (3, 0, 5) ((am_u (am_u M (3, 0, 3) (M (3, 0, 0) 4).toNatClampNeg a1) (3, 0, 4) ((am_u M (3, 0, 3) (M (3, 0, 0) 4).toNatClampNeg a1) (3, 0, 0) 4).toNatClampNeg ((am_u M (3, 0, 3) (M (3, 0, 0) 4).toNatClampNeg a1) (3, 0, 1) 1624)) (3, 0, 0) 4).toNatClampNeg a2) (3, 0, 6) ((am_u (am_u (am_u M (3, 0, 3) (M (3, 0, 0) 4).toNatClampNeg a1) (3, 0, 4) ((am_u M (3, 0, 3) (M (3, 0, 0) 4).toNatClampNeg a1) (3, 0, 0) 4).toNatClampNeg ((am_u M (3, 0, 3) (M (3, 0, 0) 4).toNatClampNeg a1) (3, 0, 1) 1624)) (3, 0, 5) ((am_u (am_u M (3, 0, 3) (M (3, 0, 0) 4).toNatClampNeg a1) (3, 0, 4) ((am_u M (3, 0, 3) (M (3, 0, 0) 4).toNatClampNeg a1) (3, 0, 0) 4).toNatClampNeg ((am_u M (3, 0, 3) (M (3, 0, 0) 4).toNatClampNeg a1) (3, 0, 1) 1624)) (3, 0, 0) 4).toNatClampNeg a2) (3, 0, 0) 4).toNatClampNeg a3) (3, 0, 0) 4).toNatClampNeg a4) (3, 0, 0) 4) + 1)) (3, 0, 0) 4) - 1)]) dX12_tells_75 msRX12_178 mbX12_does rfl rfl (Nat.le_of_ble_eq_true rfl) (Nat.le_of_ble_eq_true rfl) (by omega) (h3 0 (by decide)) rfl rfl (k_X12_does (d := d + 0) h3 h) ?_
  rintro _ zM1 zN2 ⟨rfl, h⟩
  exact j_vret dX12_tells_78 rfl ⟨rfl, h⟩
def w_X12_land (a1 : Int32) (a2 : Int32) (a3 : Int32) (M : am_I) (N : am_N) (post : Int32 → am_I → am_N → Prop) : Prop :=
  w_X12_isCell a1 M N (fun zr1 zM2 zN3 => ((zr1 = 0 → post 0 zM2 zN3) ∧ (¬ zr1 = 0 → w_X12_isIn a2 0 99 zM2 zN3 (fun zr4 zM5 zN6 => ((zr4 = 0 → post 0 zM5 zN6) ∧ (¬ zr4 = 0 → w_X12_isIn a3 0 999 zM5 zN6 (fun zr7 zM8 zN9 => ((zr7 = 0 → post 0 zM8 zN9) ∧ (¬ zr7 = 0 → ((¬ (zM8 (3, 0, 0) 4) = 400 → w_X12_tells 0 a1 a2 a3 zM8 zN9 (fun zM10 zN11 => post 1 zM10 zN11)) ∧ ((zM8 (3, 0, 0) 4) = 400 → post 0 zM8 zN9)))))))))))
set_option maxRecDepth 10000 in
theorem k_X12_land {d : Nat} {dm : List am_C} (h3 : am_d3 dm) {a1 : Int32} {a2 : Int32} {a3 : Int32} {M : am_I} {N : am_N} {post : Int32 → am_I → am_N → Prop} (h : w_X12_land a1 a2 a3 M N post) : jg (d + 5) mX12_land dm 0 [(0, .inr (.inr (3, 0, 0))), (1, .inl a1), (2, .inl a2), (3, .inl a3)] [] M N (am_pi post) := by
  refine j_iload_n 1 dX12_land_0 rfl ?_
  refine j_invS (As := [.inl a1]) dX12_land_1 msRX12_199 mbX12_isCell rfl rfl (Nat.le_of_ble_eq_true rfl) (Nat.le_of_ble_eq_true rfl) (by omega) (k_X12_isCell (d := d + 2)  h) ?_
  rintro _ zM2 zN3 ⟨zr1, rfl, h⟩
  refine j_if_eq (tgt := 38) dX12_land_4 (by decide) (fun hc => ?_) (fun hc => ?_)
  · replace h := h.1 hc
    refine j_iconst (v := 0) dX12_land_38 (by decide) ?_
    exact j_zret dX12_land_39 rfl (Or.inl rfl) ⟨_, rfl, h⟩
  · replace h := h.2 hc
    refine j_iload_n 2 dX12_land_7 rfl ?_
    refine j_iconst (v := 0) dX12_land_8 (by decide) ?_
    refine j_bipush (v := 99) dX12_land_9 (by decide) ?_
    refine j_invS (As := [.inl a2, .inl 0, .inl 99]) dX12_land_11 msRX12_162 mbX12_isIn rfl rfl (Nat.le_of_ble_eq_true rfl) (Nat.le_of_ble_eq_true rfl) (by omega) (k_X12_isIn (d := d + 3)  h) ?_
    rintro _ zM5 zN6 ⟨zr4, rfl, h⟩
    refine j_if_eq (tgt := 38) dX12_land_14 (by decide) (fun hc => ?_) (fun hc => ?_)
    · replace h := h.1 hc
      refine j_iconst (v := 0) dX12_land_38 (by decide) ?_
      exact j_zret dX12_land_39 rfl (Or.inl rfl) ⟨_, rfl, h⟩
    · replace h := h.2 hc
      refine j_iload_n 3 dX12_land_17 rfl ?_
      refine j_iconst (v := 0) dX12_land_18 (by decide) ?_
      refine j_sipush (v := 999) dX12_land_19 (by decide) ?_
      refine j_invS (As := [.inl a3, .inl 0, .inl 999]) dX12_land_22 msRX12_162 mbX12_isIn rfl rfl (Nat.le_of_ble_eq_true rfl) (Nat.le_of_ble_eq_true rfl) (by omega) (k_X12_isIn (d := d + 3)  h) ?_
      rintro _ zM8 zN9 ⟨zr7, rfl, h⟩
      refine j_if_eq (tgt := 38) dX12_land_25 (by decide) (fun hc => ?_) (fun hc => ?_)
      · replace h := h.1 hc
        refine j_iconst (v := 0) dX12_land_38 (by decide) ?_
        exact j_zret dX12_land_39 rfl (Or.inl rfl) ⟨_, rfl, h⟩
      · replace h := h.2 hc
        refine j_aload_n 0 dX12_land_28 rfl ?_
        refine j_getI dX12_land_29 fsRX12_175 (h3 0 (by decide)) rfl ?_
        refine j_sipush (v := 400) dX12_land_32 (by decide) ?_
        refine j_icmp_ne (tgt := 40) dX12_land_35 (by decide) (fun hc => ?_) (fun hc => ?_)
        · replace h := h.1 hc
          refine j_aload_n 0 dX12_land_40 rfl ?_
          refine j_iconst (v := 0) dX12_land_41 (by decide) ?_
          refine j_iload_n 1 dX12_land_42 rfl ?_
          refine j_iload_n 2 dX12_land_43 rfl ?_
          refine j_iload_n 3 dX12_land_44 rfl ?_
          refine j_invV (As := [.inl 0, .inl a1, .inl a2, .inl a3]) dX12_land_45 msRX12_203 mbX12_tells rfl rfl (Nat.le_of_ble_eq_true rfl) (Nat.le_of_ble_eq_true rfl) (by omega) (h3 0 (by decide)) rfl rfl (k_X12_tells (d := d + 0) h3 h) ?_
          rintro _ zM10 zN11 ⟨rfl, h⟩
          refine j_iconst (v := 1) dX12_land_48 (by decide) ?_
          exact j_zret dX12_land_49 rfl (Or.inr rfl) ⟨_, rfl, h⟩
        · replace h := h.2 hc
          refine j_iconst (v := 0) dX12_land_38 (by decide) ?_
          exact j_zret dX12_land_39 rfl (Or.inl rfl) ⟨_, rfl, h⟩
def w_X12_set (a1 : Int32) (a2 : Int32) (M : am_I) (N : am_N) (post : Int32 → am_I → am_N → Prop) : Prop :=
  w_X12_isSet a1 a2 M N (fun zr1 zM2 zN3 => ((zr1 = 0 → post 0 zM2 zN3) ∧ (¬ zr1 = 0 → ((¬ (zM2 (3, 0, 0) 4) = 400 → w_X12_tells 1 a1 a2 0 zM2 zN3 (fun zM4 zN5 => post 1 zM4 zN5)) ∧ ((zM2 (3, 0, 0) 4) = 400 → post 0 zM2 zN3)))))
set_option maxRecDepth 10000 in
theorem k_X12_set {d : Nat} {dm : List am_C} (h3 : am_d3 dm) {a1 : Int32} {a2 : Int32} {M : am_I} {N : am_N} {post : Int32 → am_I → am_N → Prop} (h : w_X12_set a1 a2 M N post) : jg (d + 5) mX12_set dm 0 [(0, .inr (.inr (3, 0, 0))), (1, .inl a1), (2, .inl a2)] [] M N (am_pi post) := by
  refine j_iload_n 1 dX12_set_0 rfl ?_
  refine j_iload_n 2 dX12_set_1 rfl ?_
  refine j_invS (As := [.inl a1, .inl a2]) dX12_set_2 msRX12_207 mbX12_isSet rfl rfl (Nat.le_of_ble_eq_true rfl) (Nat.le_of_ble_eq_true rfl) (by omega) (k_X12_isSet (d := d + 2)  h) ?_
  rintro _ zM2 zN3 ⟨zr1, rfl, h⟩
  refine j_if_eq (tgt := 18) dX12_set_5 (by decide) (fun hc => ?_) (fun hc => ?_)
  · replace h := h.1 hc
    refine j_iconst (v := 0) dX12_set_18 (by decide) ?_
    exact j_zret dX12_set_19 rfl (Or.inl rfl) ⟨_, rfl, h⟩
  · replace h := h.2 hc
    refine j_aload_n 0 dX12_set_8 rfl ?_
    refine j_getI dX12_set_9 fsRX12_175 (h3 0 (by decide)) rfl ?_
    refine j_sipush (v := 400) dX12_set_12 (by decide) ?_
    refine j_icmp_ne (tgt := 20) dX12_set_15 (by decide) (fun hc => ?_) (fun hc => ?_)
    · replace h := h.1 hc
      refine j_aload_n 0 dX12_set_20 rfl ?_
      refine j_iconst (v := 1) dX12_set_21 (by decide) ?_
      refine j_iload_n 1 dX12_set_22 rfl ?_
      refine j_iload_n 2 dX12_set_23 rfl ?_
      refine j_iconst (v := 0) dX12_set_24 (by decide) ?_
      refine j_invV (As := [.inl 1, .inl a1, .inl a2, .inl 0]) dX12_set_25 msRX12_203 mbX12_tells rfl rfl (Nat.le_of_ble_eq_true rfl) (Nat.le_of_ble_eq_true rfl) (by omega) (h3 0 (by decide)) rfl rfl (k_X12_tells (d := d + 0) h3 h) ?_
      rintro _ zM4 zN5 ⟨rfl, h⟩
      refine j_iconst (v := 1) dX12_set_28 (by decide) ?_
      exact j_zret dX12_set_29 rfl (Or.inr rfl) ⟨_, rfl, h⟩
    · replace h := h.2 hc
      refine j_iconst (v := 0) dX12_set_18 (by decide) ?_
      exact j_zret dX12_set_19 rfl (Or.inl rfl) ⟨_, rfl, h⟩
def w_X12_rain (a1 : Int32) (a2 : Int32) (a3 : Int32) (M : am_I) (N : am_N) (post : Int32 → am_I → am_N → Prop) : Prop :=
  ((a1 ≤ (M (3, 0, 1) 1624) → post (-1) M N) ∧ (¬ a1 ≤ (M (3, 0, 1) 1624) → w_X12_isIn a1 1 719 M N (fun zr1 zM2 zN3 => ((zr1 = 0 → post (-1) zM2 zN3) ∧ (¬ zr1 = 0 → w_X12_isIn a2 a1 719 zM2 zN3 (fun zr4 zM5 zN6 => ((zr4 = 0 → post (-1) zM5 zN6) ∧ (¬ zr4 = 0 → w_X12_isIn a3 1 99 zM5 zN6 (fun zr7 zM8 zN9 => ((zr7 = 0 → post (-1) zM8 zN9) ∧ (¬ zr7 = 0 → (((zM8 (3, 0, 0) 10) = 30 → post (-1) zM8 zN9) ∧ (¬ (zM8 (3, 0, 0) 10) = 30 → ((¬ (zM8 (3, 0, 0) 4) = 400 → vp_in (zM8 (3, 0, 0) 10) 30 ∧ vp_in ((am_u zM8 (3, 0, 8) (zM8 (3, 0, 0) 10).toNatClampNeg a1) (3, 0, 0) 10) 30 ∧ vp_in ((am_u (am_u zM8 (3, 0, 8) (zM8 (3, 0, 0) 10).toNatClampNeg a1) (3, 0, 9) ((am_u zM8 (3, 0, 8) (zM8 (3, 0, 0) 10).toNatClampNeg a1) (3, 0, 0) 10).toNatClampNeg a2) (3, 0, 0) 10) 30 ∧ w_X12_tells 2 (((am_u (am_u (am_u (am_u zM8 (3, 0, 8) (zM8 (3, 0, 0) 10).toNatClampNeg a1) (3, 0, 9) ((am_u zM8 (3, 0, 8) (zM8 (3, 0, 0) 10).toNatClampNeg a1) (3, 0, 0) 10).toNatClampNeg a2) (3, 0, 10) ((am_u (am_u zM8 (3, 0, 8) (zM8 (3, 0, 0) 10).toNatClampNeg a1) (3, 0, 9) ((am_u zM8 (3, 0, 8) (zM8 (3, 0, 0) 10).toNatClampNeg a1) (3, 0, 0) 10).toNatClampNeg a2) (3, 0, 0) 10).toNatClampNeg a3) (3, 0, 0) 10 (((am_u (am_u (am_u zM8 (3, 0, 8) (zM8 (3, 0, 0) 10).toNatClampNeg a1) (3, 0, 9) ((am_u zM8 (3, 0, 8) (zM8 (3, 0, 0) 10).toNatClampNeg a1) (3, 0, 0) 10).toNatClampNeg a2) (3, 0, 10) ((am_u (am_u zM8 (3, 0, 8) (zM8 (3, 0, 0) 10).toNatClampNeg a1) (3, 0, 9) ((am_u zM8 (3, 0, 8) (zM8 (3, 0, 0) 10).toNatClampNeg a1) (3, 0, 0) 10).toNatClampNeg a2) (3, 0, 0) 10).toNatClampNeg a3) (3, 0, 0) 10) + 1)) (3, 0, 0) 10) - 1) 0 0 (am_u (am_u (am_u (am_u zM8 (3, 0, 8) (zM8 (3, 0, 0) 10).toNatClampNeg a1) (3, 0, 9) ((am_u zM8 (3, 0, 8) (zM8 (3, 0, 0) 10).toNatClampNeg a1) (3, 0, 0) 10).toNatClampNeg a2) (3, 0, 10) ((am_u (am_u zM8 (3, 0, 8) (zM8 (3, 0, 0) 10).toNatClampNeg a1) (3, 0, 9) ((am_u zM8 (3, 0, 8) (zM8 (3, 0, 0) 10).toNatClampNeg a1) (3, 0, 0) 10).toNatClampNeg a2) (3, 0, 0) 10).toNatClampNeg a3) (3, 0, 0) 10 (((am_u (am_u (am_u zM8 (3, 0, 8) (zM8 (3, 0, 0) 10).toNatClampNeg a1) (3, 0, 9) ((am_u zM8 (3, 0, 8) (zM8 (3, 0, 0) 10).toNatClampNeg a1) (3, 0, 0) 10).toNatClampNeg a2) (3, 0, 10) ((am_u (am_u zM8 (3, 0, 8) (zM8 (3, 0, 0) 10).toNatClampNeg a1) (3, 0, 9) ((am_u zM8 (3, 0, 8) (zM8 (3, 0, 0) 10).toNatClampNeg a1) (3, 0, 0) 10).toNatClampNeg a2) (3, 0, 0) 10).toNatClampNeg a3) (3, 0, 0) 10) + 1)) zN9 (fun zM10 zN11 => post ((zM10 (3, 0, 0) 10) - 1) zM10 zN11)) ∧ ((zM8 (3, 0, 0) 4) = 400 → post (-1) zM8 zN9)))))))))))))))
set_option maxRecDepth 10000 in
theorem k_X12_rain {d : Nat} {dm : List am_C} (h3 : am_d3 dm) {a1 : Int32} {a2 : Int32} {a3 : Int32} {M : am_I} {N : am_N} {post : Int32 → am_I → am_N → Prop} (h : w_X12_rain a1 a2 a3 M N post) : jg (d + 5) mX12_rain dm 0 [(0, .inr (.inr (3, 0, 0))), (1, .inl a1), (2, .inl a2), (3, .inl a3)] [] M N (am_pi post) := by
  refine j_iload_n 1 dX12_rain_0 rfl ?_
  refine j_aload_n 0 dX12_rain_1 rfl ?_
  refine j_getR (b := (3, 0, 1)) dX12_rain_2 fsRX12_7 (h3 0 (by decide)) rfl rfl ?_
  refine j_sipush (v := 1624) dX12_rain_5 (by decide) ?_
  refine j_iald dX12_rain_8 (h3 1 (by decide)) rfl (by unfold vp_in; decide) ?_
  refine j_icmp_le (tgt := 63) dX12_rain_9 (by decide) (fun hc => ?_) (fun hc => ?_)
  · replace h := h.1 hc
    refine j_iconst (v := (-1)) dX12_rain_63 (by decide) ?_
    exact j_iret dX12_rain_64 rfl ⟨_, rfl, h⟩
  · replace h := h.2 hc
    refine j_iload_n 1 dX12_rain_12 rfl ?_
    refine j_iconst (v := 1) dX12_rain_13 (by decide) ?_
    refine j_sipush (v := 719) dX12_rain_14 (by decide) ?_
    refine j_invS (As := [.inl a1, .inl 1, .inl 719]) dX12_rain_17 msRX12_162 mbX12_isIn rfl rfl (Nat.le_of_ble_eq_true rfl) (Nat.le_of_ble_eq_true rfl) (by omega) (k_X12_isIn (d := d + 3)  h) ?_
    rintro _ zM2 zN3 ⟨zr1, rfl, h⟩
    refine j_if_eq (tgt := 63) dX12_rain_20 (by decide) (fun hc => ?_) (fun hc => ?_)
    · replace h := h.1 hc
      refine j_iconst (v := (-1)) dX12_rain_63 (by decide) ?_
      exact j_iret dX12_rain_64 rfl ⟨_, rfl, h⟩
    · replace h := h.2 hc
      refine j_iload_n 2 dX12_rain_23 rfl ?_
      refine j_iload_n 1 dX12_rain_24 rfl ?_
      refine j_sipush (v := 719) dX12_rain_25 (by decide) ?_
      refine j_invS (As := [.inl a2, .inl a1, .inl 719]) dX12_rain_28 msRX12_162 mbX12_isIn rfl rfl (Nat.le_of_ble_eq_true rfl) (Nat.le_of_ble_eq_true rfl) (by omega) (k_X12_isIn (d := d + 3)  h) ?_
      rintro _ zM5 zN6 ⟨zr4, rfl, h⟩
      refine j_if_eq (tgt := 63) dX12_rain_31 (by decide) (fun hc => ?_) (fun hc => ?_)
      · replace h := h.1 hc
        refine j_iconst (v := (-1)) dX12_rain_63 (by decide) ?_
        exact j_iret dX12_rain_64 rfl ⟨_, rfl, h⟩
      · replace h := h.2 hc
        refine j_iload_n 3 dX12_rain_34 rfl ?_
        refine j_iconst (v := 1) dX12_rain_35 (by decide) ?_
        refine j_bipush (v := 99) dX12_rain_36 (by decide) ?_
        refine j_invS (As := [.inl a3, .inl 1, .inl 99]) dX12_rain_38 msRX12_162 mbX12_isIn rfl rfl (Nat.le_of_ble_eq_true rfl) (Nat.le_of_ble_eq_true rfl) (by omega) (k_X12_isIn (d := d + 3)  h) ?_
        rintro _ zM8 zN9 ⟨zr7, rfl, h⟩
        refine j_if_eq (tgt := 63) dX12_rain_41 (by decide) (fun hc => ?_) (fun hc => ?_)
        · replace h := h.1 hc
          refine j_iconst (v := (-1)) dX12_rain_63 (by decide) ?_
          exact j_iret dX12_rain_64 rfl ⟨_, rfl, h⟩
        · replace h := h.2 hc
          refine j_aload_n 0 dX12_rain_44 rfl ?_
          refine j_getI dX12_rain_45 fsRX12_210 (h3 0 (by decide)) rfl ?_
          refine j_bipush (v := 30) dX12_rain_48 (by decide) ?_
          refine j_icmp_eq (tgt := 63) dX12_rain_50 (by decide) (fun hc => ?_) (fun hc => ?_)
          · replace h := h.1 hc
            refine j_iconst (v := (-1)) dX12_rain_63 (by decide) ?_
            exact j_iret dX12_rain_64 rfl ⟨_, rfl, h⟩
          · replace h := h.2 hc
            refine j_aload_n 0 dX12_rain_53 rfl ?_
            refine j_getI dX12_rain_54 fsRX12_175 (h3 0 (by decide)) rfl ?_
            refine j_sipush (v := 400) dX12_rain_57 (by decide) ?_
            refine j_icmp_ne (tgt := 65) dX12_rain_60 (by decide) (fun hc => ?_) (fun hc => ?_)
            · replace h := h.1 hc
              refine j_aload_n 0 dX12_rain_65 rfl ?_
              refine j_getR (b := (3, 0, 8)) dX12_rain_66 fsRX12_31 (h3 0 (by decide)) rfl rfl ?_
              refine j_aload_n 0 dX12_rain_69 rfl ?_
              refine j_getI dX12_rain_70 fsRX12_210 (h3 0 (by decide)) rfl ?_
              refine j_iload_n 1 dX12_rain_73 rfl ?_
              obtain ⟨hq, h⟩ := h
              refine j_iast dX12_rain_74 (h3 8 (by decide)) rfl hq ?_
              refine j_aload_n 0 dX12_rain_75 rfl ?_
              refine j_getR (b := (3, 0, 9)) dX12_rain_76 fsRX12_34 (h3 0 (by decide)) rfl rfl ?_
              refine j_aload_n 0 dX12_rain_79 rfl ?_
              refine j_getI dX12_rain_80 fsRX12_210 (h3 0 (by decide)) rfl ?_
              refine j_iload_n 2 dX12_rain_83 rfl ?_
              obtain ⟨hq, h⟩ := h
              refine j_iast dX12_rain_84 (h3 9 (by decide)) rfl hq ?_
              refine j_aload_n 0 dX12_rain_85 rfl ?_
              refine j_getR (b := (3, 0, 10)) dX12_rain_86 fsRX12_37 (h3 0 (by decide)) rfl rfl ?_
              refine j_aload_n 0 dX12_rain_89 rfl ?_
              refine j_getI dX12_rain_90 fsRX12_210 (h3 0 (by decide)) rfl ?_
              refine j_iload_n 3 dX12_rain_93 rfl ?_
              obtain ⟨hq, h⟩ := h
              refine j_iast dX12_rain_94 (h3 10 (by decide)) rfl hq ?_
              refine j_aload_n 0 dX12_rain_95 rfl ?_
              refine j_dup dX12_rain_96 rfl ?_
              refine j_getI dX12_rain_97 fsRX12_210 (h3 0 (by decide)) rfl ?_
              refine j_iconst (v := 1) dX12_rain_100 (by decide) ?_
              refine j_iadd dX12_rain_101 ?_
              refine j_putI dX12_rain_102 fwRX12_210 (h3 0 (by decide)) rfl ?_
              refine j_aload_n 0 dX12_rain_105 rfl ?_
              refine j_iconst (v := 2) dX12_rain_106 (by decide) ?_
              refine j_aload_n 0 dX12_rain_107 rfl ?_
              refine j_getI dX12_rain_108 fsRX12_210 (h3 0 (by decide)) rfl ?_
              refine j_iconst (v := 1) dX12_rain_111 (by decide) ?_
              refine j_isub dX12_rain_112 ?_
              refine j_iconst (v := 0) dX12_rain_113 (by decide) ?_
              refine j_iconst (v := 0) dX12_rain_114 (by decide) ?_
              refine j_invV (As := [.inl 2, .inl (((am_u (am_u (am_u (am_u zM8 (3, 0, 8) (zM8 (3, 0, 0) 10).toNatClampNeg a1) (3, 0, 9) ((am_u zM8 (3, 0, 8) (zM8 (3, 0, 0) 10).toNatClampNeg a1) (3, 0, 0) 10).toNatClampNeg a2) (3, 0, 10) ((am_u (am_u zM8 (3, 0, 8) (zM8 (3, 0, 0) 10).toNatClampNeg a1) (3, 0, 9) ((am_u zM8 (3, 0, 8) (zM8 (3, 0, 0) 10).toNatClampNeg a1) (3, 0, 0) 10).toNatClampNeg a2) (3, 0, 0) 10).toNatClampNeg a3) (3, 0, 0) 10 (((am_u (am_u (am_u zM8 (3, 0, 8) (zM8 (3, 0, 0) 10).toNatClampNeg a1) (3, 0, 9) ((am_u zM8 (3, 0, 8) (zM8 (3, 0, 0) 10).toNatClampNeg a1) (3, 0, 0) 10).toNatClampNeg a2) (3, 0, 10) ((am_u (am_u zM8 (3, 0, 8) (zM8 (3, 0, 0) 10).toNatClampNeg a1) (3, 0, 9) ((am_u zM8 (3, 0, 8) (zM8 (3, 0, 0) 10).toNatClampNeg a1) (3, 0, 0) 10).toNatClampNeg a2) (3, 0, 0) 10).toNatClampNeg a3) (3, 0, 0) 10) + 1)) (3, 0, 0) 10) - 1), .inl 0, .inl 0]) dX12_rain_115 msRX12_203 mbX12_tells rfl rfl (Nat.le_of_ble_eq_true rfl) (Nat.le_of_ble_eq_true rfl) (by omega) (h3 0 (by decide)) rfl rfl (k_X12_tells (d := d + 0) h3 h) ?_
              rintro _ zM10 zN11 ⟨rfl, h⟩
              refine j_aload_n 0 dX12_rain_118 rfl ?_
              refine j_getI dX12_rain_119 fsRX12_210 (h3 0 (by decide)) rfl ?_
              refine j_iconst (v := 1) dX12_rain_122 (by decide) ?_
              refine j_isub dX12_rain_123 ?_
              exact j_iret dX12_rain_124 rfl ⟨_, rfl, h⟩
            · replace h := h.2 hc
              refine j_iconst (v := (-1)) dX12_rain_63 (by decide) ?_
              exact j_iret dX12_rain_64 rfl ⟨_, rfl, h⟩
def w_X12_cart (a1 : Int32) (a2 : Int32) (a3 : Int32) (a4 : Int32) (a5 : Int32) (M : am_I) (N : am_N) (post : Int32 → am_I → am_N → Prop) : Prop :=
  w_X12_isIn a1 0 3 M N (fun zr1 zM2 zN3 => ((zr1 = 0 → post (-1) zM2 zN3) ∧ (¬ zr1 = 0 → w_X12_isIn a2 1 50 zM2 zN3 (fun zr4 zM5 zN6 => ((zr4 = 0 → post (-1) zM5 zN6) ∧ (¬ zr4 = 0 → w_X12_isIn a3 50 999 zM5 zN6 (fun zr7 zM8 zN9 => ((zr7 = 0 → post (-1) zM8 zN9) ∧ (¬ zr7 = 0 → w_X12_isCell a4 zM8 zN9 (fun zr10 zM11 zN12 => ((zr10 = 0 → post (-1) zM11 zN12) ∧ (¬ zr10 = 0 → w_X12_isIn a5 10 500 zM11 zN12 (fun zr13 zM14 zN15 => ((zr13 = 0 → post (-1) zM14 zN15) ∧ (¬ zr13 = 0 → (((zM14 (3, 0, 0) 11) = 8 → post (-1) zM14 zN15) ∧ (¬ (zM14 (3, 0, 0) 11) = 8 → ((¬ (zM14 (3, 0, 0) 4) = 400 → vp_in (zM14 (3, 0, 0) 11) 8 ∧ vp_in ((am_u zM14 (3, 0, 11) (zM14 (3, 0, 0) 11).toNatClampNeg a1) (3, 0, 0) 11) 8 ∧ vp_in ((am_u (am_u zM14 (3, 0, 11) (zM14 (3, 0, 0) 11).toNatClampNeg a1) (3, 0, 12) ((am_u zM14 (3, 0, 11) (zM14 (3, 0, 0) 11).toNatClampNeg a1) (3, 0, 0) 11).toNatClampNeg a2) (3, 0, 0) 11) 8 ∧ vp_in ((am_u (am_u (am_u zM14 (3, 0, 11) (zM14 (3, 0, 0) 11).toNatClampNeg a1) (3, 0, 12) ((am_u zM14 (3, 0, 11) (zM14 (3, 0, 0) 11).toNatClampNeg a1) (3, 0, 0) 11).toNatClampNeg a2) (3, 0, 13) ((am_u (am_u zM14 (3, 0, 11) (zM14 (3, 0, 0) 11).toNatClampNeg a1) (3, 0, 12) ((am_u zM14 (3, 0, 11) (zM14 (3, 0, 0) 11).toNatClampNeg a1) (3, 0, 0) 11).toNatClampNeg a2) (3, 0, 0) 11).toNatClampNeg a3) (3, 0, 0) 11) 8 ∧ vp_in ((am_u (am_u (am_u (am_u zM14 (3, 0, 11) (zM14 (3, 0, 0) 11).toNatClampNeg a1) (3, 0, 12) ((am_u zM14 (3, 0, 11) (zM14 (3, 0, 0) 11).toNatClampNeg a1) (3, 0, 0) 11).toNatClampNeg a2) (3, 0, 13) ((am_u (am_u zM14 (3, 0, 11) (zM14 (3, 0, 0) 11).toNatClampNeg a1) (3, 0, 12) ((am_u zM14 (3, 0, 11) (zM14 (3, 0, 0) 11).toNatClampNeg a1) (3, 0, 0) 11).toNatClampNeg a2) (3, 0, 0) 11).toNatClampNeg a3) (3, 0, 14) ((am_u (am_u (am_u zM14 (3, 0, 11) (zM14 (3, 0, 0) 11).toNatClampNeg a1) (3, 0, 12) ((am_u zM14 (3, 0, 11) (zM14 (3, 0, 0) 11).toNatClampNeg a1) (3, 0, 0) 11).toNatClampNeg a2) (3, 0, 13) ((am_u (am_u zM14 (3, 0, 11) (zM14 (3, 0, 0) 11).toNatClampNeg a1) (3, 0, 12) ((am_u zM14 (3, 0, 11) (zM14 (3, 0, 0) 11).toNatClampNeg a1) (3, 0, 0) 11).toNatClampNeg a2) (3, 0, 0) 11).toNatClampNeg a3) (3, 0, 0) 11).toNatClampNeg a4) (3, 0, 0) 11) 8 ∧ w_X12_tells 3 (((am_u (am_u (am_u (am_u (am_u (am_u zM14 (3, 0, 11) (zM14 (3, 0, 0) 11).toNatClampNeg a1) (3, 0, 12) ((am_u zM14 (3, 0, 11) (zM14 (3, 0, 0) 11).toNatClampNeg a1) (3, 0, 0) 11).toNatClampNeg a2) (3, 0, 13) ((am_u (am_u zM14 (3, 0, 11) (zM14 (3, 0, 0) 11).toNatClampNeg a1) (3, 0, 12) ((am_u zM14 (3, 0, 11) (zM14 (3, 0, 0) 11).toNatClampNeg a1) (3, 0, 0) 11).toNatClampNeg a2) (3, 0, 0) 11).toNatClampNeg a3) (3, 0, 14) ((am_u (am_u (am_u zM14 (3, 0, 11) (zM14 (3, 0, 0) 11).toNatClampNeg a1) (3, 0, 12) ((am_u zM14 (3, 0, 11) (zM14 (3, 0, 0) 11).toNatClampNeg a1) (3, 0, 0) 11).toNatClampNeg a2) (3, 0, 13) ((am_u (am_u zM14 (3, 0, 11) (zM14 (3, 0, 0) 11).toNatClampNeg a1) (3, 0, 12) ((am_u zM14 (3, 0, 11) (zM14 (3, 0, 0) 11).toNatClampNeg a1) (3, 0, 0) 11).toNatClampNeg a2) (3, 0, 0) 11).toNatClampNeg a3) (3, 0, 0) 11).toNatClampNeg a4) (3, 0, 15) ((am_u (am_u (am_u (am_u zM14 (3, 0, 11) (zM14 (3, 0, 0) 11).toNatClampNeg a1) (3, 0, 12) ((am_u zM14 (3, 0, 11) (zM14 (3, 0, 0) 11).toNatClampNeg a1) (3, 0, 0) 11).toNatClampNeg a2) (3, 0, 13) ((am_u (am_u zM14 (3, 0, 11) (zM14 (3, 0, 0) 11).toNatClampNeg a1) (3, 0, 12) ((am_u zM14 (3, 0, 11) (zM14 (3, 0, 0) 11).toNatClampNeg a1) (3, 0, 0) 11).toNatClampNeg a2) (3, 0, 0) 11).toNatClampNeg a3) (3, 0, 14) ((am_u (am_u (am_u zM14 (3, 0, 11) (zM14 (3, 0, 0) 11).toNatClampNeg a1) (3, 0, 12) ((am_u zM14 (3, 0, 11) (zM14 (3, 0, 0) 11).toNatClampNeg a1) (3, 0, 0) 11).toNatClampNeg a2) (3, 0, 13) ((am_u (am_u zM14 (3, 0, 11) (zM14 (3, 0, 0) 11).toNatClampNeg a1) (3, 0, 12) ((am_u zM14 (3, 0, 11) (zM14 (3, 0, 0) 11).toNatClampNeg a1) (3, 0, 0) 11).toNatClampNeg a2) (3, 0, 0) 11).toNatClampNeg a3) (3, 0, 0) 11).toNatClampNeg a4) (3, 0, 0) 11).toNatClampNeg a5) (3, 0, 0) 11 (((am_u (am_u (am_u (am_u (am_u zM14 (3, 0, 11) (zM14 (3, 0, 0) 11).toNatClampNeg a1) (3, 0, 12) ((am_u zM14 (3, 0, 11) (zM14 (3, 0, 0) 11).toNatClampNeg a1) (3, 0, 0) 11).toNatClampNeg a2) (3, 0, 13) ((am_u (am_u zM14 (3, 0, 11) (zM14 (3, 0, 0) 11).toNatClampNeg a1) (3, 0, 12) ((am_u zM14 (3, 0, 11) (zM14 (3, 0, 0) 11).toNatClampNeg a1) (3, 0, 0) 11).toNatClampNeg a2) (3, 0, 0) 11).toNatClampNeg a3) (3, 0, 14) ((am_u (am_u (am_u zM14 (3, 0, 11) (zM14 (3, 0, 0) 11).toNatClampNeg a1) (3, 0, 12) ((am_u zM14 (3, 0, 11) (zM14 (3, 0, 0) 11).toNatClampNeg a1) (3, 0, 0) 11).toNatClampNeg a2) (3, 0, 13) ((am_u (am_u zM14 (3, 0, 11) (zM14 (3, 0, 0) 11).toNatClampNeg a1) (3, 0, 12) ((am_u zM14 (3, 0, 11) (zM14 (3, 0, 0) 11).toNatClampNeg a1) (3, 0, 0) 11).toNatClampNeg a2) (3, 0, 0) 11).toNatClampNeg a3) (3, 0, 0) 11).toNatClampNeg a4) (3, 0, 15) ((am_u (am_u (am_u (am_u zM14 (3, 0, 11) (zM14 (3, 0, 0) 11).toNatClampNeg a1) (3, 0, 12) ((am_u zM14 (3, 0, 11) (zM14 (3, 0, 0) 11).toNatClampNeg a1) (3, 0, 0) 11).toNatClampNeg a2) (3, 0, 13) ((am_u (am_u zM14 (3, 0, 11) (zM14 (3, 0, 0) 11).toNatClampNeg a1) (3, 0, 12) ((am_u zM14 (3, 0, 11) (zM14 (3, 0, 0) 11).toNatClampNeg a1) (3, 0, 0) 11).toNatClampNeg a2) (3, 0, 0) 11).toNatClampNeg a3) (3, 0, 14) ((am_u (am_u (am_u zM14 (3, 0, 11) (zM14 (3, 0, 0) 11).toNatClampNeg a1) (3, 0, 12) ((am_u zM14 (3, 0, 11) (zM14 (3, 0, 0) 11).toNatClampNeg a1) (3, 0, 0) 11).toNatClampNeg a2) (3, 0, 13) ((am_u (am_u zM14 (3, 0, 11) (zM14 (3, 0, 0) 11).toNatClampNeg a1) (3, 0, 12) ((am_u zM14 (3, 0, 11) (zM14 (3, 0, 0) 11).toNatClampNeg a1) (3, 0, 0) 11).toNatClampNeg a2) (3, 0, 0) 11).toNatClampNeg a3) (3, 0, 0) 11).toNatClampNeg a4) (3, 0, 0) 11).toNatClampNeg a5) (3, 0, 0) 11) + 1)) (3, 0, 0) 11) - 1) 0 0 (am_u (am_u (am_u (am_u (am_u (am_u zM14 (3, 0, 11) (zM14 (3, 0, 0) 11).toNatClampNeg a1) (3, 0, 12) ((am_u zM14 (3, 0, 11) (zM14 (3, 0, 0) 11).toNatClampNeg a1) (3, 0, 0) 11).toNatClampNeg a2) (3, 0, 13) ((am_u (am_u zM14 (3, 0, 11) (zM14 (3, 0, 0) 11).toNatClampNeg a1) (3, 0, 12) ((am_u zM14 (3, 0, 11) (zM14 (3, 0, 0) 11).toNatClampNeg a1) (3, 0, 0) 11).toNatClampNeg a2) (3, 0, 0) 11).toNatClampNeg a3) (3, 0, 14) ((am_u (am_u (am_u zM14 (3, 0, 11) (zM14 (3, 0, 0) 11).toNatClampNeg a1) (3, 0, 12) ((am_u zM14 (3, 0, 11) (zM14 (3, 0, 0) 11).toNatClampNeg a1) (3, 0, 0) 11).toNatClampNeg a2) (3, 0, 13) ((am_u (am_u zM14 (3, 0, 11) (zM14 (3, 0, 0) 11).toNatClampNeg a1) (3, 0, 12) ((am_u zM14 (3, 0, 11) (zM14 (3, 0, 0) 11).toNatClampNeg a1) (3, 0, 0) 11).toNatClampNeg a2) (3, 0, 0) 11).toNatClampNeg a3) (3, 0, 0) 11).toNatClampNeg a4) (3, 0, 15) ((am_u (am_u (am_u (am_u zM14 (3, 0, 11) (zM14 (3, 0, 0) 11).toNatClampNeg a1) (3, 0, 12) ((am_u zM14 (3, 0, 11) (zM14 (3, 0, 0) 11).toNatClampNeg a1) (3, 0, 0) 11).toNatClampNeg a2) (3, 0, 13) ((am_u (am_u zM14 (3, 0, 11) (zM14 (3, 0, 0) 11).toNatClampNeg a1) (3, 0, 12) ((am_u zM14 (3, 0, 11) (zM14 (3, 0, 0) 11).toNatClampNeg a1) (3, 0, 0) 11).toNatClampNeg a2) (3, 0, 0) 11).toNatClampNeg a3) (3, 0, 14) ((am_u (am_u (am_u zM14 (3, 0, 11) (zM14 (3, 0, 0) 11).toNatClampNeg a1) (3, 0, 12) ((am_u zM14 (3, 0, 11) (zM14 (3, 0, 0) 11).toNatClampNeg a1) (3, 0, 0) 11).toNatClampNeg a2) (3, 0, 13) ((am_u (am_u zM14 (3, 0, 11) (zM14 (3, 0, 0) 11).toNatClampNeg a1) (3, 0, 12) ((am_u zM14 (3, 0, 11) (zM14 (3, 0, 0) 11).toNatClampNeg a1) (3, 0, 0) 11).toNatClampNeg a2) (3, 0, 0) 11).toNatClampNeg a3) (3, 0, 0) 11).toNatClampNeg a4) (3, 0, 0) 11).toNatClampNeg a5) (3, 0, 0) 11 (((am_u (am_u (am_u (am_u (am_u zM14 (3, 0, 11) (zM14 (3, 0, 0) 11).toNatClampNeg a1) (3, 0, 12) ((am_u zM14 (3, 0, 11) (zM14 (3, 0, 0) 11).toNatClampNeg a1) (3, 0, 0) 11).toNatClampNeg a2) (3, 0, 13) ((am_u (am_u zM14 (3, 0, 11) (zM14 (3, 0, 0) 11).toNatClampNeg a1) (3, 0, 12) ((am_u zM14 (3, 0, 11) (zM14 (3, 0, 0) 11).toNatClampNeg a1) (3, 0, 0) 11).toNatClampNeg a2) (3, 0, 0) 11).toNatClampNeg a3) (3, 0, 14) ((am_u (am_u (am_u zM14 (3, 0, 11) (zM14 (3, 0, 0) 11).toNatClampNeg a1) (3, 0, 12) ((am_u zM14 (3, 0, 11) (zM14 (3, 0, 0) 11).toNatClampNeg a1) (3, 0, 0) 11).toNatClampNeg a2) (3, 0, 13) ((am_u (am_u zM14 (3, 0, 11) (zM14 (3, 0, 0) 11).toNatClampNeg a1) (3, 0, 12) ((am_u zM14 (3, 0, 11) (zM14 (3, 0, 0) 11).toNatClampNeg a1) (3, 0, 0) 11).toNatClampNeg a2) (3, 0, 0) 11).toNatClampNeg a3) (3, 0, 0) 11).toNatClampNeg a4) (3, 0, 15) ((am_u (am_u (am_u (am_u zM14 (3, 0, 11) (zM14 (3, 0, 0) 11).toNatClampNeg a1) (3, 0, 12) ((am_u zM14 (3, 0, 11) (zM14 (3, 0, 0) 11).toNatClampNeg a1) (3, 0, 0) 11).toNatClampNeg a2) (3, 0, 13) ((am_u (am_u zM14 (3, 0, 11) (zM14 (3, 0, 0) 11).toNatClampNeg a1) (3, 0, 12) ((am_u zM14 (3, 0, 11) (zM14 (3, 0, 0) 11).toNatClampNeg a1) (3, 0, 0) 11).toNatClampNeg a2) (3, 0, 0) 11).toNatClampNeg a3) (3, 0, 14) ((am_u (am_u (am_u zM14 (3, 0, 11) (zM14 (3, 0, 0) 11).toNatClampNeg a1) (3, 0, 12) ((am_u zM14 (3, 0, 11) (zM14 (3, 0, 0) 11).toNatClampNeg a1) (3, 0, 0) 11).toNatClampNeg a2) (3, 0, 13) ((am_u (am_u zM14 (3, 0, 11) (zM14 (3, 0, 0) 11).toNatClampNeg a1) (3, 0, 12) ((am_u zM14 (3, 0, 11) (zM14 (3, 0, 0) 11).toNatClampNeg a1) (3, 0, 0) 11).toNatClampNeg a2) (3, 0, 0) 11).toNatClampNeg a3) (3, 0, 0) 11).toNatClampNeg a4) (3, 0, 0) 11).toNatClampNeg a5) (3, 0, 0) 11) + 1)) zN15 (fun zM16 zN17 => post ((zM16 (3, 0, 0) 11) - 1) zM16 zN17)) ∧ ((zM14 (3, 0, 0) 4) = 400 → post (-1) zM14 zN15)))))))))))))))))))
set_option maxRecDepth 10000 in
theorem k_X12_cart {d : Nat} {dm : List am_C} (h3 : am_d3 dm) {a1 : Int32} {a2 : Int32} {a3 : Int32} {a4 : Int32} {a5 : Int32} {M : am_I} {N : am_N} {post : Int32 → am_I → am_N → Prop} (h : w_X12_cart a1 a2 a3 a4 a5 M N post) : jg (d + 5) mX12_cart dm 0 [(0, .inr (.inr (3, 0, 0))), (1, .inl a1), (2, .inl a2), (3, .inl a3), (4, .inl a4), (5, .inl a5)] [] M N (am_pi post) := by
  refine j_iload_n 1 dX12_cart_0 rfl ?_
  refine j_iconst (v := 0) dX12_cart_1 (by decide) ?_
  refine j_iconst (v := 3) dX12_cart_2 (by decide) ?_
  refine j_invS (As := [.inl a1, .inl 0, .inl 3]) dX12_cart_3 msRX12_162 mbX12_isIn rfl rfl (Nat.le_of_ble_eq_true rfl) (Nat.le_of_ble_eq_true rfl) (by omega) (k_X12_isIn (d := d + 3)  h) ?_
  rintro _ zM2 zN3 ⟨zr1, rfl, h⟩
  refine j_if_eq (tgt := 71) dX12_cart_6 (by decide) (fun hc => ?_) (fun hc => ?_)
  · replace h := h.1 hc
    refine j_iconst (v := (-1)) dX12_cart_71 (by decide) ?_
    exact j_iret dX12_cart_72 rfl ⟨_, rfl, h⟩
  · replace h := h.2 hc
    refine j_iload_n 2 dX12_cart_9 rfl ?_
    refine j_iconst (v := 1) dX12_cart_10 (by decide) ?_
    refine j_bipush (v := 50) dX12_cart_11 (by decide) ?_
    refine j_invS (As := [.inl a2, .inl 1, .inl 50]) dX12_cart_13 msRX12_162 mbX12_isIn rfl rfl (Nat.le_of_ble_eq_true rfl) (Nat.le_of_ble_eq_true rfl) (by omega) (k_X12_isIn (d := d + 3)  h) ?_
    rintro _ zM5 zN6 ⟨zr4, rfl, h⟩
    refine j_if_eq (tgt := 71) dX12_cart_16 (by decide) (fun hc => ?_) (fun hc => ?_)
    · replace h := h.1 hc
      refine j_iconst (v := (-1)) dX12_cart_71 (by decide) ?_
      exact j_iret dX12_cart_72 rfl ⟨_, rfl, h⟩
    · replace h := h.2 hc
      refine j_iload_n 3 dX12_cart_19 rfl ?_
      refine j_bipush (v := 50) dX12_cart_20 (by decide) ?_
      refine j_sipush (v := 999) dX12_cart_22 (by decide) ?_
      refine j_invS (As := [.inl a3, .inl 50, .inl 999]) dX12_cart_25 msRX12_162 mbX12_isIn rfl rfl (Nat.le_of_ble_eq_true rfl) (Nat.le_of_ble_eq_true rfl) (by omega) (k_X12_isIn (d := d + 3)  h) ?_
      rintro _ zM8 zN9 ⟨zr7, rfl, h⟩
      refine j_if_eq (tgt := 71) dX12_cart_28 (by decide) (fun hc => ?_) (fun hc => ?_)
      · replace h := h.1 hc
        refine j_iconst (v := (-1)) dX12_cart_71 (by decide) ?_
        exact j_iret dX12_cart_72 rfl ⟨_, rfl, h⟩
      · replace h := h.2 hc
        refine j_iload 4 dX12_cart_31 rfl ?_
        refine j_invS (As := [.inl a4]) dX12_cart_33 msRX12_199 mbX12_isCell rfl rfl (Nat.le_of_ble_eq_true rfl) (Nat.le_of_ble_eq_true rfl) (by omega) (k_X12_isCell (d := d + 2)  h) ?_
        rintro _ zM11 zN12 ⟨zr10, rfl, h⟩
        refine j_if_eq (tgt := 71) dX12_cart_36 (by decide) (fun hc => ?_) (fun hc => ?_)
        · replace h := h.1 hc
          refine j_iconst (v := (-1)) dX12_cart_71 (by decide) ?_
          exact j_iret dX12_cart_72 rfl ⟨_, rfl, h⟩
        · replace h := h.2 hc
          refine j_iload 5 dX12_cart_39 rfl ?_
          refine j_bipush (v := 10) dX12_cart_41 (by decide) ?_
          refine j_sipush (v := 500) dX12_cart_43 (by decide) ?_
          refine j_invS (As := [.inl a5, .inl 10, .inl 500]) dX12_cart_46 msRX12_162 mbX12_isIn rfl rfl (Nat.le_of_ble_eq_true rfl) (Nat.le_of_ble_eq_true rfl) (by omega) (k_X12_isIn (d := d + 3)  h) ?_
          rintro _ zM14 zN15 ⟨zr13, rfl, h⟩
          refine j_if_eq (tgt := 71) dX12_cart_49 (by decide) (fun hc => ?_) (fun hc => ?_)
          · replace h := h.1 hc
            refine j_iconst (v := (-1)) dX12_cart_71 (by decide) ?_
            exact j_iret dX12_cart_72 rfl ⟨_, rfl, h⟩
          · replace h := h.2 hc
            refine j_aload_n 0 dX12_cart_52 rfl ?_
            refine j_getI dX12_cart_53 fsRX12_213 (h3 0 (by decide)) rfl ?_
            refine j_bipush (v := 8) dX12_cart_56 (by decide) ?_
            refine j_icmp_eq (tgt := 71) dX12_cart_58 (by decide) (fun hc => ?_) (fun hc => ?_)
            · replace h := h.1 hc
              refine j_iconst (v := (-1)) dX12_cart_71 (by decide) ?_
              exact j_iret dX12_cart_72 rfl ⟨_, rfl, h⟩
            · replace h := h.2 hc
              refine j_aload_n 0 dX12_cart_61 rfl ?_
              refine j_getI dX12_cart_62 fsRX12_175 (h3 0 (by decide)) rfl ?_
              refine j_sipush (v := 400) dX12_cart_65 (by decide) ?_
              refine j_icmp_ne (tgt := 73) dX12_cart_68 (by decide) (fun hc => ?_) (fun hc => ?_)
              · replace h := h.1 hc
                refine j_aload_n 0 dX12_cart_73 rfl ?_
                refine j_getR (b := (3, 0, 11)) dX12_cart_74 fsRX12_40 (h3 0 (by decide)) rfl rfl ?_
                refine j_aload_n 0 dX12_cart_77 rfl ?_
                refine j_getI dX12_cart_78 fsRX12_213 (h3 0 (by decide)) rfl ?_
                refine j_iload_n 1 dX12_cart_81 rfl ?_
                obtain ⟨hq, h⟩ := h
                refine j_iast dX12_cart_82 (h3 11 (by decide)) rfl hq ?_
                refine j_aload_n 0 dX12_cart_83 rfl ?_
                refine j_getR (b := (3, 0, 12)) dX12_cart_84 fsRX12_43 (h3 0 (by decide)) rfl rfl ?_
                refine j_aload_n 0 dX12_cart_87 rfl ?_
                refine j_getI dX12_cart_88 fsRX12_213 (h3 0 (by decide)) rfl ?_
                refine j_iload_n 2 dX12_cart_91 rfl ?_
                obtain ⟨hq, h⟩ := h
                refine j_iast dX12_cart_92 (h3 12 (by decide)) rfl hq ?_
                refine j_aload_n 0 dX12_cart_93 rfl ?_
                refine j_getR (b := (3, 0, 13)) dX12_cart_94 fsRX12_46 (h3 0 (by decide)) rfl rfl ?_
                refine j_aload_n 0 dX12_cart_97 rfl ?_
                refine j_getI dX12_cart_98 fsRX12_213 (h3 0 (by decide)) rfl ?_
                refine j_iload_n 3 dX12_cart_101 rfl ?_
                obtain ⟨hq, h⟩ := h
                refine j_iast dX12_cart_102 (h3 13 (by decide)) rfl hq ?_
                refine j_aload_n 0 dX12_cart_103 rfl ?_
                refine j_getR (b := (3, 0, 14)) dX12_cart_104 fsRX12_49 (h3 0 (by decide)) rfl rfl ?_
                refine j_aload_n 0 dX12_cart_107 rfl ?_
                refine j_getI dX12_cart_108 fsRX12_213 (h3 0 (by decide)) rfl ?_
                refine j_iload 4 dX12_cart_111 rfl ?_
                obtain ⟨hq, h⟩ := h
                refine j_iast dX12_cart_113 (h3 14 (by decide)) rfl hq ?_
                refine j_aload_n 0 dX12_cart_114 rfl ?_
                refine j_getR (b := (3, 0, 15)) dX12_cart_115 fsRX12_52 (h3 0 (by decide)) rfl rfl ?_
                refine j_aload_n 0 dX12_cart_118 rfl ?_
                refine j_getI dX12_cart_119 fsRX12_213 (h3 0 (by decide)) rfl ?_
                refine j_iload 5 dX12_cart_122 rfl ?_
                obtain ⟨hq, h⟩ := h
                refine j_iast dX12_cart_124 (h3 15 (by decide)) rfl hq ?_
                refine j_aload_n 0 dX12_cart_125 rfl ?_
                refine j_dup dX12_cart_126 rfl ?_
                refine j_getI dX12_cart_127 fsRX12_213 (h3 0 (by decide)) rfl ?_
                refine j_iconst (v := 1) dX12_cart_130 (by decide) ?_
                refine j_iadd dX12_cart_131 ?_
                refine j_putI dX12_cart_132 fwRX12_213 (h3 0 (by decide)) rfl ?_
                refine j_aload_n 0 dX12_cart_135 rfl ?_
                refine j_iconst (v := 3) dX12_cart_136 (by decide) ?_
                refine j_aload_n 0 dX12_cart_137 rfl ?_
                refine j_getI dX12_cart_138 fsRX12_213 (h3 0 (by decide)) rfl ?_
                refine j_iconst (v := 1) dX12_cart_141 (by decide) ?_
                refine j_isub dX12_cart_142 ?_
                refine j_iconst (v := 0) dX12_cart_143 (by decide) ?_
                refine j_iconst (v := 0) dX12_cart_144 (by decide) ?_
                refine j_invV (As := [.inl 3, .inl (((am_u (am_u (am_u (am_u (am_u (am_u zM14 (3, 0, 11) (zM14 (3, 0, 0) 11).toNatClampNeg a1) (3, 0, 12) ((am_u zM14 (3, 0, 11) (zM14 (3, 0, 0) 11).toNatClampNeg a1) (3, 0, 0) 11).toNatClampNeg a2) (3, 0, 13) ((am_u (am_u zM14 (3, 0, 11) (zM14 (3, 0, 0) 11).toNatClampNeg a1) (3, 0, 12) ((am_u zM14 (3, 0, 11) (zM14 (3, 0, 0) 11).toNatClampNeg a1) (3, 0, 0) 11).toNatClampNeg a2) (3, 0, 0) 11).toNatClampNeg a3) (3, 0, 14) ((am_u (am_u (am_u zM14 (3, 0, 11) (zM14 (3, 0, 0) 11).toNatClampNeg a1) (3, 0, 12) ((am_u zM14 (3, 0, 11) (zM14 (3, 0, 0) 11).toNatClampNeg a1) (3, 0, 0) 11).toNatClampNeg a2) (3, 0, 13) ((am_u (am_u zM14 (3, 0, 11) (zM14 (3, 0, 0) 11).toNatClampNeg a1) (3, 0, 12) ((am_u zM14 (3, 0, 11) (zM14 (3, 0, 0) 11).toNatClampNeg a1) (3, 0, 0) 11).toNatClampNeg a2) (3, 0, 0) 11).toNatClampNeg a3) (3, 0, 0) 11).toNatClampNeg a4) (3, 0, 15) ((am_u (am_u (am_u (am_u zM14 (3, 0, 11) (zM14 (3, 0, 0) 11).toNatClampNeg a1) (3, 0, 12) ((am_u zM14 (3, 0, 11) (zM14 (3, 0, 0) 11).toNatClampNeg a1) (3, 0, 0) 11).toNatClampNeg a2) (3, 0, 13) ((am_u (am_u zM14 (3, 0, 11) (zM14 (3, 0, 0) 11).toNatClampNeg a1) (3, 0, 12) ((am_u zM14 (3, 0, 11) (zM14 (3, 0, 0) 11).toNatClampNeg a1) (3, 0, 0) 11).toNatClampNeg a2) (3, 0, 0) 11).toNatClampNeg a3) (3, 0, 14) ((am_u (am_u (am_u zM14 (3, 0, 11) (zM14 (3, 0, 0) 11).toNatClampNeg a1) (3, 0, 12) ((am_u zM14 (3, 0, 11) (zM14 (3, 0, 0) 11).toNatClampNeg a1) (3, 0, 0) 11).toNatClampNeg a2) (3, 0, 13) ((am_u (am_u zM14 (3, 0, 11) (zM14 (3, 0, 0) 11).toNatClampNeg a1) (3, 0, 12) ((am_u zM14 (3, 0, 11) (zM14 (3, 0, 0) 11).toNatClampNeg a1) (3, 0, 0) 11).toNatClampNeg a2) (3, 0, 0) 11).toNatClampNeg a3) (3, 0, 0) 11).toNatClampNeg a4) (3, 0, 0) 11).toNatClampNeg a5) (3, 0, 0) 11 (((am_u (am_u (am_u (am_u (am_u zM14 (3, 0, 11) (zM14 (3, 0, 0) 11).toNatClampNeg a1) (3, 0, 12) ((am_u zM14 (3, 0, 11) (zM14 (3, 0, 0) 11).toNatClampNeg a1) (3, 0, 0) 11).toNatClampNeg a2) (3, 0, 13) ((am_u (am_u zM14 (3, 0, 11) (zM14 (3, 0, 0) 11).toNatClampNeg a1) (3, 0, 12) ((am_u zM14 (3, 0, 11) (zM14 (3, 0, 0) 11).toNatClampNeg a1) (3, 0, 0) 11).toNatClampNeg a2) (3, 0, 0) 11).toNatClampNeg a3) (3, 0, 14) ((am_u (am_u (am_u zM14 (3, 0, 11) (zM14 (3, 0, 0) 11).toNatClampNeg a1) (3, 0, 12) ((am_u zM14 (3, 0, 11) (zM14 (3, 0, 0) 11).toNatClampNeg a1) (3, 0, 0) 11).toNatClampNeg a2) (3, 0, 13) ((am_u (am_u zM14 (3, 0, 11) (zM14 (3, 0, 0) 11).toNatClampNeg a1) (3, 0, 12) ((am_u zM14 (3, 0, 11) (zM14 (3, 0, 0) 11).toNatClampNeg a1) (3, 0, 0) 11).toNatClampNeg a2) (3, 0, 0) 11).toNatClampNeg a3) (3, 0, 0) 11).toNatClampNeg a4) (3, 0, 15) ((am_u (am_u (am_u (am_u zM14 (3, 0, 11) (zM14 (3, 0, 0) 11).toNatClampNeg a1) (3, 0, 12) ((am_u zM14 (3, 0, 11) (zM14 (3, 0, 0) 11).toNatClampNeg a1) (3, 0, 0) 11).toNatClampNeg a2) (3, 0, 13) ((am_u (am_u zM14 (3, 0, 11) (zM14 (3, 0, 0) 11).toNatClampNeg a1) (3, 0, 12) ((am_u zM14 (3, 0, 11) (zM14 (3, 0, 0) 11).toNatClampNeg a1) (3, 0, 0) 11).toNatClampNeg a2) (3, 0, 0) 11).toNatClampNeg a3) (3, 0, 14) ((am_u (am_u (am_u zM14 (3, 0, 11) (zM14 (3, 0, 0) 11).toNatClampNeg a1) (3, 0, 12) ((am_u zM14 (3, 0, 11) (zM14 (3, 0, 0) 11).toNatClampNeg a1) (3, 0, 0) 11).toNatClampNeg a2) (3, 0, 13) ((am_u (am_u zM14 (3, 0, 11) (zM14 (3, 0, 0) 11).toNatClampNeg a1) (3, 0, 12) ((am_u zM14 (3, 0, 11) (zM14 (3, 0, 0) 11).toNatClampNeg a1) (3, 0, 0) 11).toNatClampNeg a2) (3, 0, 0) 11).toNatClampNeg a3) (3, 0, 0) 11).toNatClampNeg a4) (3, 0, 0) 11).toNatClampNeg a5) (3, 0, 0) 11) + 1)) (3, 0, 0) 11) - 1), .inl 0, .inl 0]) dX12_cart_145 msRX12_203 mbX12_tells rfl rfl (Nat.le_of_ble_eq_true rfl) (Nat.le_of_ble_eq_true rfl) (by omega) (h3 0 (by decide)) rfl rfl (k_X12_tells (d := d + 0) h3 h) ?_
                rintro _ zM16 zN17 ⟨rfl, h⟩
                refine j_aload_n 0 dX12_cart_148 rfl ?_
                refine j_getI dX12_cart_149 fsRX12_213 (h3 0 (by decide)) rfl ?_
                refine j_iconst (v := 1) dX12_cart_152 (by decide) ?_
                refine j_isub dX12_cart_153 ?_
                exact j_iret dX12_cart_154 rfl ⟨_, rfl, h⟩
              · replace h := h.2 hc
                refine j_iconst (v := (-1)) dX12_cart_71 (by decide) ?_
                exact j_iret dX12_cart_72 rfl ⟨_, rfl, h⟩
def w_X12_charge (a1 : Int32) (M : am_I) (N : am_N) (post : Int32 → am_I → am_N → Prop) : Prop :=
  w_X12_isCart a1 M N (fun zr1 zM2 zN3 => ((zr1 = 0 → post 0 zM2 zN3) ∧ (¬ zr1 = 0 → vp_in (976 + a1) 1635 ∧ ((¬ (zM2 (3, 0, 1) (976 + a1).toNatClampNeg) = 5 → post 0 zM2 zN3) ∧ ((zM2 (3, 0, 1) (976 + a1).toNatClampNeg) = 5 → ((¬ (zM2 (3, 0, 0) 4) = 400 → w_X12_tells 4 a1 0 0 zM2 zN3 (fun zM4 zN5 => post 1 zM4 zN5)) ∧ ((zM2 (3, 0, 0) 4) = 400 → post 0 zM2 zN3)))))))
set_option maxRecDepth 10000 in
theorem k_X12_charge {d : Nat} {dm : List am_C} (h3 : am_d3 dm) {a1 : Int32} {M : am_I} {N : am_N} {post : Int32 → am_I → am_N → Prop} (h : w_X12_charge a1 M N post) : jg (d + 5) mX12_charge dm 0 [(0, .inr (.inr (3, 0, 0))), (1, .inl a1)] [] M N (am_pi post) := by
  refine j_aload_n 0 dX12_charge_0 rfl ?_
  refine j_iload_n 1 dX12_charge_1 rfl ?_
  refine j_invV (As := [.inl a1]) dX12_charge_2 msRX12_216 mbX12_isCart rfl rfl (Nat.le_of_ble_eq_true rfl) (Nat.le_of_ble_eq_true rfl) (by omega) (h3 0 (by decide)) rfl rfl (k_X12_isCart (d := d + 2) h3 h) ?_
  rintro _ zM2 zN3 ⟨zr1, rfl, h⟩
  refine j_if_eq (tgt := 32) dX12_charge_5 (by decide) (fun hc => ?_) (fun hc => ?_)
  · replace h := h.1 hc
    refine j_iconst (v := 0) dX12_charge_32 (by decide) ?_
    exact j_zret dX12_charge_33 rfl (Or.inl rfl) ⟨_, rfl, h⟩
  · replace h := h.2 hc
    refine j_aload_n 0 dX12_charge_8 rfl ?_
    refine j_getR (b := (3, 0, 1)) dX12_charge_9 fsRX12_7 (h3 0 (by decide)) rfl rfl ?_
    refine j_sipush (v := 976) dX12_charge_12 (by decide) ?_
    refine j_iload_n 1 dX12_charge_15 rfl ?_
    refine j_iadd dX12_charge_16 ?_
    obtain ⟨hq, h⟩ := h
    refine j_iald dX12_charge_17 (h3 1 (by decide)) rfl hq ?_
    refine j_iconst (v := 5) dX12_charge_18 (by decide) ?_
    refine j_icmp_ne (tgt := 32) dX12_charge_19 (by decide) (fun hc => ?_) (fun hc => ?_)
    · replace h := h.1 hc
      refine j_iconst (v := 0) dX12_charge_32 (by decide) ?_
      exact j_zret dX12_charge_33 rfl (Or.inl rfl) ⟨_, rfl, h⟩
    · replace h := h.2 hc
      refine j_aload_n 0 dX12_charge_22 rfl ?_
      refine j_getI dX12_charge_23 fsRX12_175 (h3 0 (by decide)) rfl ?_
      refine j_sipush (v := 400) dX12_charge_26 (by decide) ?_
      refine j_icmp_ne (tgt := 34) dX12_charge_29 (by decide) (fun hc => ?_) (fun hc => ?_)
      · replace h := h.1 hc
        refine j_aload_n 0 dX12_charge_34 rfl ?_
        refine j_iconst (v := 4) dX12_charge_35 (by decide) ?_
        refine j_iload_n 1 dX12_charge_36 rfl ?_
        refine j_iconst (v := 0) dX12_charge_37 (by decide) ?_
        refine j_iconst (v := 0) dX12_charge_38 (by decide) ?_
        refine j_invV (As := [.inl 4, .inl a1, .inl 0, .inl 0]) dX12_charge_39 msRX12_203 mbX12_tells rfl rfl (Nat.le_of_ble_eq_true rfl) (Nat.le_of_ble_eq_true rfl) (by omega) (h3 0 (by decide)) rfl rfl (k_X12_tells (d := d + 0) h3 h) ?_
        rintro _ zM4 zN5 ⟨rfl, h⟩
        refine j_iconst (v := 1) dX12_charge_42 (by decide) ?_
        exact j_zret dX12_charge_43 rfl (Or.inr rfl) ⟨_, rfl, h⟩
      · replace h := h.2 hc
        refine j_iconst (v := 0) dX12_charge_32 (by decide) ?_
        exact j_zret dX12_charge_33 rfl (Or.inl rfl) ⟨_, rfl, h⟩
def w_X12_work_p39 (post : Int32 → am_I → am_N → Prop) (l1 : Int32) (l2 : Int32) (l3 : Int32) (M : am_I) (N : am_N) : Prop :=
  (((M (3, 0, 0) 12) = 60 → post (-1) M N) ∧ (¬ (M (3, 0, 0) 12) = 60 → ((¬ (M (3, 0, 0) 4) = 400 → vp_in (M (3, 0, 0) 12) 60 ∧ vp_in ((am_u M (3, 0, 16) (M (3, 0, 0) 12).toNatClampNeg l1) (3, 0, 0) 12) 60 ∧ vp_in ((am_u (am_u M (3, 0, 16) (M (3, 0, 0) 12).toNatClampNeg l1) (3, 0, 17) ((am_u M (3, 0, 16) (M (3, 0, 0) 12).toNatClampNeg l1) (3, 0, 0) 12).toNatClampNeg l2) (3, 0, 0) 12) 60 ∧ w_X12_tells 5 (((am_u (am_u (am_u (am_u M (3, 0, 16) (M (3, 0, 0) 12).toNatClampNeg l1) (3, 0, 17) ((am_u M (3, 0, 16) (M (3, 0, 0) 12).toNatClampNeg l1) (3, 0, 0) 12).toNatClampNeg l2) (3, 0, 18) ((am_u (am_u M (3, 0, 16) (M (3, 0, 0) 12).toNatClampNeg l1) (3, 0, 17) ((am_u M (3, 0, 16) (M (3, 0, 0) 12).toNatClampNeg l1) (3, 0, 0) 12).toNatClampNeg l2) (3, 0, 0) 12).toNatClampNeg l3) (3, 0, 0) 12 (((am_u (am_u (am_u M (3, 0, 16) (M (3, 0, 0) 12).toNatClampNeg l1) (3, 0, 17) ((am_u M (3, 0, 16) (M (3, 0, 0) 12).toNatClampNeg l1) (3, 0, 0) 12).toNatClampNeg l2) (3, 0, 18) ((am_u (am_u M (3, 0, 16) (M (3, 0, 0) 12).toNatClampNeg l1) (3, 0, 17) ((am_u M (3, 0, 16) (M (3, 0, 0) 12).toNatClampNeg l1) (3, 0, 0) 12).toNatClampNeg l2) (3, 0, 0) 12).toNatClampNeg l3) (3, 0, 0) 12) + 1)) (3, 0, 0) 12) - 1) 0 0 (am_u (am_u (am_u (am_u M (3, 0, 16) (M (3, 0, 0) 12).toNatClampNeg l1) (3, 0, 17) ((am_u M (3, 0, 16) (M (3, 0, 0) 12).toNatClampNeg l1) (3, 0, 0) 12).toNatClampNeg l2) (3, 0, 18) ((am_u (am_u M (3, 0, 16) (M (3, 0, 0) 12).toNatClampNeg l1) (3, 0, 17) ((am_u M (3, 0, 16) (M (3, 0, 0) 12).toNatClampNeg l1) (3, 0, 0) 12).toNatClampNeg l2) (3, 0, 0) 12).toNatClampNeg l3) (3, 0, 0) 12 (((am_u (am_u (am_u M (3, 0, 16) (M (3, 0, 0) 12).toNatClampNeg l1) (3, 0, 17) ((am_u M (3, 0, 16) (M (3, 0, 0) 12).toNatClampNeg l1) (3, 0, 0) 12).toNatClampNeg l2) (3, 0, 18) ((am_u (am_u M (3, 0, 16) (M (3, 0, 0) 12).toNatClampNeg l1) (3, 0, 17) ((am_u M (3, 0, 16) (M (3, 0, 0) 12).toNatClampNeg l1) (3, 0, 0) 12).toNatClampNeg l2) (3, 0, 0) 12).toNatClampNeg l3) (3, 0, 0) 12) + 1)) N (fun zM1 zN2 => post ((zM1 (3, 0, 0) 12) - 1) zM1 zN2)) ∧ ((M (3, 0, 0) 4) = 400 → post (-1) M N))))
set_option maxRecDepth 10000 in
theorem k_X12_work_p39 {d : Nat} {dm : List am_C} (h3 : am_d3 dm) {post : Int32 → am_I → am_N → Prop} (l1 : Int32) (l2 : Int32) (l3 : Int32) (M : am_I) (N : am_N) (h : w_X12_work_p39 post l1 l2 l3 M N) : jg (d + 5) mX12_work dm 39 [(0, .inr (.inr (3, 0, 0))), (1, .inl l1), (2, .inl l2), (3, .inl l3)] [] M N (am_pi post) := by
  refine j_aload_n 0 dX12_work_39 rfl ?_
  refine j_getI dX12_work_40 fsRX12_219 (h3 0 (by decide)) rfl ?_
  refine j_bipush (v := 60) dX12_work_43 (by decide) ?_
  refine j_icmp_eq (tgt := 58) dX12_work_45 (by decide) (fun hc => ?_) (fun hc => ?_)
  · replace h := h.1 hc
    refine j_iconst (v := (-1)) dX12_work_58 (by decide) ?_
    exact j_iret dX12_work_59 rfl ⟨_, rfl, h⟩
  · replace h := h.2 hc
    refine j_aload_n 0 dX12_work_48 rfl ?_
    refine j_getI dX12_work_49 fsRX12_175 (h3 0 (by decide)) rfl ?_
    refine j_sipush (v := 400) dX12_work_52 (by decide) ?_
    refine j_icmp_ne (tgt := 60) dX12_work_55 (by decide) (fun hc => ?_) (fun hc => ?_)
    · replace h := h.1 hc
      refine j_aload_n 0 dX12_work_60 rfl ?_
      refine j_getR (b := (3, 0, 16)) dX12_work_61 fsRX12_55 (h3 0 (by decide)) rfl rfl ?_
      refine j_aload_n 0 dX12_work_64 rfl ?_
      refine j_getI dX12_work_65 fsRX12_219 (h3 0 (by decide)) rfl ?_
      refine j_iload_n 1 dX12_work_68 rfl ?_
      obtain ⟨hq, h⟩ := h
      refine j_iast dX12_work_69 (h3 16 (by decide)) rfl hq ?_
      refine j_aload_n 0 dX12_work_70 rfl ?_
      refine j_getR (b := (3, 0, 17)) dX12_work_71 fsRX12_58 (h3 0 (by decide)) rfl rfl ?_
      refine j_aload_n 0 dX12_work_74 rfl ?_
      refine j_getI dX12_work_75 fsRX12_219 (h3 0 (by decide)) rfl ?_
      refine j_iload_n 2 dX12_work_78 rfl ?_
      obtain ⟨hq, h⟩ := h
      refine j_iast dX12_work_79 (h3 17 (by decide)) rfl hq ?_
      refine j_aload_n 0 dX12_work_80 rfl ?_
      refine j_getR (b := (3, 0, 18)) dX12_work_81 fsRX12_61 (h3 0 (by decide)) rfl rfl ?_
      refine j_aload_n 0 dX12_work_84 rfl ?_
      refine j_getI dX12_work_85 fsRX12_219 (h3 0 (by decide)) rfl ?_
      refine j_iload_n 3 dX12_work_88 rfl ?_
      obtain ⟨hq, h⟩ := h
      refine j_iast dX12_work_89 (h3 18 (by decide)) rfl hq ?_
      refine j_aload_n 0 dX12_work_90 rfl ?_
      refine j_dup dX12_work_91 rfl ?_
      refine j_getI dX12_work_92 fsRX12_219 (h3 0 (by decide)) rfl ?_
      refine j_iconst (v := 1) dX12_work_95 (by decide) ?_
      refine j_iadd dX12_work_96 ?_
      refine j_putI dX12_work_97 fwRX12_219 (h3 0 (by decide)) rfl ?_
      refine j_aload_n 0 dX12_work_100 rfl ?_
      refine j_iconst (v := 5) dX12_work_101 (by decide) ?_
      refine j_aload_n 0 dX12_work_102 rfl ?_
      refine j_getI dX12_work_103 fsRX12_219 (h3 0 (by decide)) rfl ?_
      refine j_iconst (v := 1) dX12_work_106 (by decide) ?_
      refine j_isub dX12_work_107 ?_
      refine j_iconst (v := 0) dX12_work_108 (by decide) ?_
      refine j_iconst (v := 0) dX12_work_109 (by decide) ?_
      refine j_invV (As := [.inl 5, .inl (((am_u (am_u (am_u (am_u M (3, 0, 16) (M (3, 0, 0) 12).toNatClampNeg l1) (3, 0, 17) ((am_u M (3, 0, 16) (M (3, 0, 0) 12).toNatClampNeg l1) (3, 0, 0) 12).toNatClampNeg l2) (3, 0, 18) ((am_u (am_u M (3, 0, 16) (M (3, 0, 0) 12).toNatClampNeg l1) (3, 0, 17) ((am_u M (3, 0, 16) (M (3, 0, 0) 12).toNatClampNeg l1) (3, 0, 0) 12).toNatClampNeg l2) (3, 0, 0) 12).toNatClampNeg l3) (3, 0, 0) 12 (((am_u (am_u (am_u M (3, 0, 16) (M (3, 0, 0) 12).toNatClampNeg l1) (3, 0, 17) ((am_u M (3, 0, 16) (M (3, 0, 0) 12).toNatClampNeg l1) (3, 0, 0) 12).toNatClampNeg l2) (3, 0, 18) ((am_u (am_u M (3, 0, 16) (M (3, 0, 0) 12).toNatClampNeg l1) (3, 0, 17) ((am_u M (3, 0, 16) (M (3, 0, 0) 12).toNatClampNeg l1) (3, 0, 0) 12).toNatClampNeg l2) (3, 0, 0) 12).toNatClampNeg l3) (3, 0, 0) 12) + 1)) (3, 0, 0) 12) - 1), .inl 0, .inl 0]) dX12_work_110 msRX12_203 mbX12_tells rfl rfl (Nat.le_of_ble_eq_true rfl) (Nat.le_of_ble_eq_true rfl) (by omega) (h3 0 (by decide)) rfl rfl (k_X12_tells (d := d + 0) h3 h) ?_
      rintro _ zM1 zN2 ⟨rfl, h⟩
      refine j_aload_n 0 dX12_work_113 rfl ?_
      refine j_getI dX12_work_114 fsRX12_219 (h3 0 (by decide)) rfl ?_
      refine j_iconst (v := 1) dX12_work_117 (by decide) ?_
      refine j_isub dX12_work_118 ?_
      exact j_iret dX12_work_119 rfl ⟨_, rfl, h⟩
    · replace h := h.2 hc
      refine j_iconst (v := (-1)) dX12_work_58 (by decide) ?_
      exact j_iret dX12_work_59 rfl ⟨_, rfl, h⟩
def w_X12_work (a1 : Int32) (a2 : Int32) (a3 : Int32) (M : am_I) (N : am_N) (post : Int32 → am_I → am_N → Prop) : Prop :=
  w_X12_isIn a1 0 3 M N (fun zr1 zM2 zN3 => ((zr1 = 0 → post (-1) zM2 zN3) ∧ (¬ zr1 = 0 → w_X12_isCell a2 zM2 zN3 (fun zr4 zM5 zN6 => ((zr4 = 0 → post (-1) zM5 zN6) ∧ (¬ zr4 = 0 → ((¬ a1 = 2 → ((¬ a3 = 0 → post (-1) zM5 zN6) ∧ (a3 = 0 → w_X12_work_p39 post a1 a2 a3 zM5 zN6))) ∧ (a1 = 2 → w_X12_isIn a3 1 999 zM5 zN6 (fun zr7 zM8 zN9 => ((zr7 = 0 → post (-1) zM8 zN9) ∧ (¬ zr7 = 0 → w_X12_work_p39 post a1 a2 a3 zM8 zN9)))))))))))
set_option maxRecDepth 10000 in
theorem k_X12_work {d : Nat} {dm : List am_C} (h3 : am_d3 dm) {a1 : Int32} {a2 : Int32} {a3 : Int32} {M : am_I} {N : am_N} {post : Int32 → am_I → am_N → Prop} (h : w_X12_work a1 a2 a3 M N post) : jg (d + 5) mX12_work dm 0 [(0, .inr (.inr (3, 0, 0))), (1, .inl a1), (2, .inl a2), (3, .inl a3)] [] M N (am_pi post) := by
  refine j_iload_n 1 dX12_work_0 rfl ?_
  refine j_iconst (v := 0) dX12_work_1 (by decide) ?_
  refine j_iconst (v := 3) dX12_work_2 (by decide) ?_
  refine j_invS (As := [.inl a1, .inl 0, .inl 3]) dX12_work_3 msRX12_162 mbX12_isIn rfl rfl (Nat.le_of_ble_eq_true rfl) (Nat.le_of_ble_eq_true rfl) (by omega) (k_X12_isIn (d := d + 3)  h) ?_
  rintro _ zM2 zN3 ⟨zr1, rfl, h⟩
  refine j_if_eq (tgt := 58) dX12_work_6 (by decide) (fun hc => ?_) (fun hc => ?_)
  · replace h := h.1 hc
    refine j_iconst (v := (-1)) dX12_work_58 (by decide) ?_
    exact j_iret dX12_work_59 rfl ⟨_, rfl, h⟩
  · replace h := h.2 hc
    refine j_iload_n 2 dX12_work_9 rfl ?_
    refine j_invS (As := [.inl a2]) dX12_work_10 msRX12_199 mbX12_isCell rfl rfl (Nat.le_of_ble_eq_true rfl) (Nat.le_of_ble_eq_true rfl) (by omega) (k_X12_isCell (d := d + 2)  h) ?_
    rintro _ zM5 zN6 ⟨zr4, rfl, h⟩
    refine j_if_eq (tgt := 58) dX12_work_13 (by decide) (fun hc => ?_) (fun hc => ?_)
    · replace h := h.1 hc
      refine j_iconst (v := (-1)) dX12_work_58 (by decide) ?_
      exact j_iret dX12_work_59 rfl ⟨_, rfl, h⟩
    · replace h := h.2 hc
      refine j_iload_n 1 dX12_work_16 rfl ?_
      refine j_iconst (v := 2) dX12_work_17 (by decide) ?_
      refine j_icmp_ne (tgt := 35) dX12_work_18 (by decide) (fun hc => ?_) (fun hc => ?_)
      · replace h := h.1 hc
        refine j_iload_n 3 dX12_work_35 rfl ?_
        refine j_if_ne (tgt := 58) dX12_work_36 (by decide) (fun hc => ?_) (fun hc => ?_)
        · replace h := h.1 hc
          refine j_iconst (v := (-1)) dX12_work_58 (by decide) ?_
          exact j_iret dX12_work_59 rfl ⟨_, rfl, h⟩
        · replace h := h.2 hc
          refine j_sub [0, 1, 2, 3] rfl ?_
          exact k_X12_work_p39 h3 _ _ _ _ _ h
      · replace h := h.2 hc
        refine j_iload_n 3 dX12_work_21 rfl ?_
        refine j_iconst (v := 1) dX12_work_22 (by decide) ?_
        refine j_sipush (v := 999) dX12_work_23 (by decide) ?_
        refine j_invS (As := [.inl a3, .inl 1, .inl 999]) dX12_work_26 msRX12_162 mbX12_isIn rfl rfl (Nat.le_of_ble_eq_true rfl) (Nat.le_of_ble_eq_true rfl) (by omega) (k_X12_isIn (d := d + 3)  h) ?_
        rintro _ zM8 zN9 ⟨zr7, rfl, h⟩
        refine j_if_eq (tgt := 58) dX12_work_29 (by decide) (fun hc => ?_) (fun hc => ?_)
        · replace h := h.1 hc
          refine j_iconst (v := (-1)) dX12_work_58 (by decide) ?_
          exact j_iret dX12_work_59 rfl ⟨_, rfl, h⟩
        · replace h := h.2 hc
          refine j_goto (tgt := 39) dX12_work_32 (by decide) ?_
          refine j_sub [0, 1, 2, 3] rfl ?_
          exact k_X12_work_p39 h3 _ _ _ _ _ h
def w_X12_lot (a1 : Int32) (M : am_I) (N : am_N) (post : Int32 → am_I → am_N → Prop) : Prop :=
  w_X12_isIn a1 0 99 M N (fun zr1 zM2 zN3 => ((zr1 = 0 → post (-1) zM2 zN3) ∧ (¬ zr1 = 0 → (((zM2 (3, 0, 0) 13) = 40 → post (-1) zM2 zN3) ∧ (¬ (zM2 (3, 0, 0) 13) = 40 → ((¬ (zM2 (3, 0, 0) 4) = 400 → vp_in (zM2 (3, 0, 0) 13) 40 ∧ w_X12_tells 6 0 0 0 (am_u (am_u zM2 (3, 0, 19) (zM2 (3, 0, 0) 13).toNatClampNeg a1) (3, 0, 0) 13 (((am_u zM2 (3, 0, 19) (zM2 (3, 0, 0) 13).toNatClampNeg a1) (3, 0, 0) 13) + 1)) zN3 (fun zM4 zN5 => post (zM4 (3, 0, 0) 13) zM4 zN5)) ∧ ((zM2 (3, 0, 0) 4) = 400 → post (-1) zM2 zN3)))))))
set_option maxRecDepth 10000 in
theorem k_X12_lot {d : Nat} {dm : List am_C} (h3 : am_d3 dm) {a1 : Int32} {M : am_I} {N : am_N} {post : Int32 → am_I → am_N → Prop} (h : w_X12_lot a1 M N post) : jg (d + 5) mX12_lot dm 0 [(0, .inr (.inr (3, 0, 0))), (1, .inl a1)] [] M N (am_pi post) := by
  refine j_iload_n 1 dX12_lot_0 rfl ?_
  refine j_iconst (v := 0) dX12_lot_1 (by decide) ?_
  refine j_bipush (v := 99) dX12_lot_2 (by decide) ?_
  refine j_invS (As := [.inl a1, .inl 0, .inl 99]) dX12_lot_4 msRX12_162 mbX12_isIn rfl rfl (Nat.le_of_ble_eq_true rfl) (Nat.le_of_ble_eq_true rfl) (by omega) (k_X12_isIn (d := d + 3)  h) ?_
  rintro _ zM2 zN3 ⟨zr1, rfl, h⟩
  refine j_if_eq (tgt := 29) dX12_lot_7 (by decide) (fun hc => ?_) (fun hc => ?_)
  · replace h := h.1 hc
    refine j_iconst (v := (-1)) dX12_lot_29 (by decide) ?_
    exact j_iret dX12_lot_30 rfl ⟨_, rfl, h⟩
  · replace h := h.2 hc
    refine j_aload_n 0 dX12_lot_10 rfl ?_
    refine j_getI dX12_lot_11 fsRX12_222 (h3 0 (by decide)) rfl ?_
    refine j_bipush (v := 40) dX12_lot_14 (by decide) ?_
    refine j_icmp_eq (tgt := 29) dX12_lot_16 (by decide) (fun hc => ?_) (fun hc => ?_)
    · replace h := h.1 hc
      refine j_iconst (v := (-1)) dX12_lot_29 (by decide) ?_
      exact j_iret dX12_lot_30 rfl ⟨_, rfl, h⟩
    · replace h := h.2 hc
      refine j_aload_n 0 dX12_lot_19 rfl ?_
      refine j_getI dX12_lot_20 fsRX12_175 (h3 0 (by decide)) rfl ?_
      refine j_sipush (v := 400) dX12_lot_23 (by decide) ?_
      refine j_icmp_ne (tgt := 31) dX12_lot_26 (by decide) (fun hc => ?_) (fun hc => ?_)
      · replace h := h.1 hc
        refine j_aload_n 0 dX12_lot_31 rfl ?_
        refine j_getR (b := (3, 0, 19)) dX12_lot_32 fsRX12_64 (h3 0 (by decide)) rfl rfl ?_
        refine j_aload_n 0 dX12_lot_35 rfl ?_
        refine j_getI dX12_lot_36 fsRX12_222 (h3 0 (by decide)) rfl ?_
        refine j_iload_n 1 dX12_lot_39 rfl ?_
        obtain ⟨hq, h⟩ := h
        refine j_iast dX12_lot_40 (h3 19 (by decide)) rfl hq ?_
        refine j_aload_n 0 dX12_lot_41 rfl ?_
        refine j_dup dX12_lot_42 rfl ?_
        refine j_getI dX12_lot_43 fsRX12_222 (h3 0 (by decide)) rfl ?_
        refine j_iconst (v := 1) dX12_lot_46 (by decide) ?_
        refine j_iadd dX12_lot_47 ?_
        refine j_putI dX12_lot_48 fwRX12_222 (h3 0 (by decide)) rfl ?_
        refine j_aload_n 0 dX12_lot_51 rfl ?_
        refine j_bipush (v := 6) dX12_lot_52 (by decide) ?_
        refine j_iconst (v := 0) dX12_lot_54 (by decide) ?_
        refine j_iconst (v := 0) dX12_lot_55 (by decide) ?_
        refine j_iconst (v := 0) dX12_lot_56 (by decide) ?_
        refine j_invV (As := [.inl 6, .inl 0, .inl 0, .inl 0]) dX12_lot_57 msRX12_203 mbX12_tells rfl rfl (Nat.le_of_ble_eq_true rfl) (Nat.le_of_ble_eq_true rfl) (by omega) (h3 0 (by decide)) rfl rfl (k_X12_tells (d := d + 0) h3 h) ?_
        rintro _ zM4 zN5 ⟨rfl, h⟩
        refine j_aload_n 0 dX12_lot_60 rfl ?_
        refine j_getI dX12_lot_61 fsRX12_222 (h3 0 (by decide)) rfl ?_
        exact j_iret dX12_lot_64 rfl ⟨_, rfl, h⟩
      · replace h := h.2 hc
        refine j_iconst (v := (-1)) dX12_lot_29 (by decide) ?_
        exact j_iret dX12_lot_30 rfl ⟨_, rfl, h⟩
def w_X12_kind (a1 : Int32) (a2 : Int32) (a3 : Int32) (a4 : Int32) (a5 : Int32) (a6 : Int32) (M : am_I) (N : am_N) (post : Int32 → am_I → am_N → Prop) : Prop :=
  w_X12_isIn a2 1 100 M N (fun zr1 zM2 zN3 => ((zr1 = 0 → post (-1) zM2 zN3) ∧ (¬ zr1 = 0 → w_X12_isIn a3 1 99 zM2 zN3 (fun zr4 zM5 zN6 => ((zr4 = 0 → post (-1) zM5 zN6) ∧ (¬ zr4 = 0 → w_X12_isIn a4 1 99 zM5 zN6 (fun zr7 zM8 zN9 => ((zr7 = 0 → post (-1) zM8 zN9) ∧ (¬ zr7 = 0 → w_X12_isIn a5 1 99 zM8 zN9 (fun zr10 zM11 zN12 => ((zr10 = 0 → post (-1) zM11 zN12) ∧ (¬ zr10 = 0 → w_X12_isIn a6 1 99 zM11 zN12 (fun zr13 zM14 zN15 => ((zr13 = 0 → post (-1) zM14 zN15) ∧ (¬ zr13 = 0 → (((zM14 (3, 0, 0) 14) = 5 → post (-1) zM14 zN15) ∧ (¬ (zM14 (3, 0, 0) 14) = 5 → ((¬ (zM14 (3, 0, 0) 4) = 400 → vp_in (zM14 (3, 0, 0) 14) 5 ∧ vp_in ((am_u zM14 (3, 0, 22) (zM14 (3, 0, 0) 14).toNatClampNeg (vp_nar .boolean a1)) (3, 0, 0) 14) 5 ∧ vp_in (4 * ((am_u (am_u zM14 (3, 0, 22) (zM14 (3, 0, 0) 14).toNatClampNeg (vp_nar .boolean a1)) (3, 0, 20) ((am_u zM14 (3, 0, 22) (zM14 (3, 0, 0) 14).toNatClampNeg (vp_nar .boolean a1)) (3, 0, 0) 14).toNatClampNeg a2) (3, 0, 0) 14)) 20 ∧ vp_in ((4 * ((am_u (am_u (am_u zM14 (3, 0, 22) (zM14 (3, 0, 0) 14).toNatClampNeg (vp_nar .boolean a1)) (3, 0, 20) ((am_u zM14 (3, 0, 22) (zM14 (3, 0, 0) 14).toNatClampNeg (vp_nar .boolean a1)) (3, 0, 0) 14).toNatClampNeg a2) (3, 0, 21) (4 * ((am_u (am_u zM14 (3, 0, 22) (zM14 (3, 0, 0) 14).toNatClampNeg (vp_nar .boolean a1)) (3, 0, 20) ((am_u zM14 (3, 0, 22) (zM14 (3, 0, 0) 14).toNatClampNeg (vp_nar .boolean a1)) (3, 0, 0) 14).toNatClampNeg a2) (3, 0, 0) 14)).toNatClampNeg a3) (3, 0, 0) 14)) + 1) 20 ∧ vp_in ((4 * ((am_u (am_u (am_u (am_u zM14 (3, 0, 22) (zM14 (3, 0, 0) 14).toNatClampNeg (vp_nar .boolean a1)) (3, 0, 20) ((am_u zM14 (3, 0, 22) (zM14 (3, 0, 0) 14).toNatClampNeg (vp_nar .boolean a1)) (3, 0, 0) 14).toNatClampNeg a2) (3, 0, 21) (4 * ((am_u (am_u zM14 (3, 0, 22) (zM14 (3, 0, 0) 14).toNatClampNeg (vp_nar .boolean a1)) (3, 0, 20) ((am_u zM14 (3, 0, 22) (zM14 (3, 0, 0) 14).toNatClampNeg (vp_nar .boolean a1)) (3, 0, 0) 14).toNatClampNeg a2) (3, 0, 0) 14)).toNatClampNeg a3) (3, 0, 21) ((4 * ((am_u (am_u (am_u zM14 (3, 0, 22) (zM14 (3, 0, 0) 14).toNatClampNeg (vp_nar .boolean a1)) (3, 0, 20) ((am_u zM14 (3, 0, 22) (zM14 (3, 0, 0) 14).toNatClampNeg (vp_nar .boolean a1)) (3, 0, 0) 14).toNatClampNeg a2) (3, 0, 21) (4 * ((am_u (am_u zM14 (3, 0, 22) (zM14 (3, 0, 0) 14).toNatClampNeg (vp_nar .boolean a1)) (3, 0, 20) ((am_u zM14 (3, 0, 22) (zM14 (3, 0, 0) 14).toNatClampNeg (vp_nar .boolean a1)) (3, 0, 0) 14).toNatClampNeg a2) (3, 0, 0) 14)).toNatClampNeg a3) (3, 0, 0) 14)) + 1).toNatClampNeg a4) (3, 0, 0) 14)) + 2) 20 ∧ vp_in ((4 * ((am_u (am_u (am_u (am_u (am_u zM14 (3, 0, 22) (zM14 (3, 0, 0) 14).toNatClampNeg (vp_nar .boolean a1)) (3, 0, 20) ((am_u zM14 (3, 0, 22) (zM14 (3, 0, 0) 14).toNatClampNeg (vp_nar .boolean a1)) (3, 0, 0) 14).toNatClampNeg a2) (3, 0, 21) (4 * ((am_u (am_u zM14 (3, 0, 22) (zM14 (3, 0, 0) 14).toNatClampNeg (vp_nar .boolean a1)) (3, 0, 20) ((am_u zM14 (3, 0, 22) (zM14 (3, 0, 0) 14).toNatClampNeg (vp_nar .boolean a1)) (3, 0, 0) 14).toNatClampNeg a2) (3, 0, 0) 14)).toNatClampNeg a3) (3, 0, 21) ((4 * ((am_u (am_u (am_u zM14 (3, 0, 22) (zM14 (3, 0, 0) 14).toNatClampNeg (vp_nar .boolean a1)) (3, 0, 20) ((am_u zM14 (3, 0, 22) (zM14 (3, 0, 0) 14).toNatClampNeg (vp_nar .boolean a1)) (3, 0, 0) 14).toNatClampNeg a2) (3, 0, 21) (4 * ((am_u (am_u zM14 (3, 0, 22) (zM14 (3, 0, 0) 14).toNatClampNeg (vp_nar .boolean a1)) (3, 0, 20) ((am_u zM14 (3, 0, 22) (zM14 (3, 0, 0) 14).toNatClampNeg (vp_nar .boolean a1)) (3, 0, 0) 14).toNatClampNeg a2) (3, 0, 0) 14)).toNatClampNeg a3) (3, 0, 0) 14)) + 1).toNatClampNeg a4) (3, 0, 21) ((4 * ((am_u (am_u (am_u (am_u zM14 (3, 0, 22) (zM14 (3, 0, 0) 14).toNatClampNeg (vp_nar .boolean a1)) (3, 0, 20) ((am_u zM14 (3, 0, 22) (zM14 (3, 0, 0) 14).toNatClampNeg (vp_nar .boolean a1)) (3, 0, 0) 14).toNatClampNeg a2) (3, 0, 21) (4 * ((am_u (am_u zM14 (3, 0, 22) (zM14 (3, 0, 0) 14).toNatClampNeg (vp_nar .boolean a1)) (3, 0, 20) ((am_u zM14 (3, 0, 22) (zM14 (3, 0, 0) 14).toNatClampNeg (vp_nar .boolean a1)) (3, 0, 0) 14).toNatClampNeg a2) (3, 0, 0) 14)).toNatClampNeg a3) (3, 0, 21) ((4 * ((am_u (am_u (am_u zM14 (3, 0, 22) (zM14 (3, 0, 0) 14).toNatClampNeg (vp_nar .boolean a1)) (3, 0, 20) ((am_u zM14 (3, 0, 22) (zM14 (3, 0, 0) 14).toNatClampNeg (vp_nar .boolean a1)) (3, 0, 0) 14).toNatClampNeg a2) (3, 0, 21) (4 * ((am_u (am_u zM14 (3, 0, 22) (zM14 (3, 0, 0) 14).toNatClampNeg (vp_nar .boolean a1)) (3, 0, 20) ((am_u zM14 (3, 0, 22) (zM14 (3, 0, 0) 14).toNatClampNeg (vp_nar .boolean a1)) (3, 0, 0) 14).toNatClampNeg a2) (3, 0, 0) 14)).toNatClampNeg a3) (3, 0, 0) 14)) + 1).toNatClampNeg a4) (3, 0, 0) 14)) + 2).toNatClampNeg a5) (3, 0, 0) 14)) + 3) 20 ∧ w_X12_tells 7 0 0 0 (am_u (am_u (am_u (am_u (am_u (am_u (am_u zM14 (3, 0, 22) (zM14 (3, 0, 0) 14).toNatClampNeg (vp_nar .boolean a1)) (3, 0, 20) ((am_u zM14 (3, 0, 22) (zM14 (3, 0, 0) 14).toNatClampNeg (vp_nar .boolean a1)) (3, 0, 0) 14).toNatClampNeg a2) (3, 0, 21) (4 * ((am_u (am_u zM14 (3, 0, 22) (zM14 (3, 0, 0) 14).toNatClampNeg (vp_nar .boolean a1)) (3, 0, 20) ((am_u zM14 (3, 0, 22) (zM14 (3, 0, 0) 14).toNatClampNeg (vp_nar .boolean a1)) (3, 0, 0) 14).toNatClampNeg a2) (3, 0, 0) 14)).toNatClampNeg a3) (3, 0, 21) ((4 * ((am_u (am_u (am_u zM14 (3, 0, 22) (zM14 (3, 0, 0) 14).toNatClampNeg (vp_nar .boolean a1)) (3, 0, 20) ((am_u zM14 (3, 0, 22) (zM14 (3, 0, 0) 14).toNatClampNeg (vp_nar .boolean a1)) (3, 0, 0) 14).toNatClampNeg a2) (3, 0, 21) (4 * ((am_u (am_u zM14 (3, 0, 22) (zM14 (3, 0, 0) 14).toNatClampNeg (vp_nar .boolean a1)) (3, 0, 20) ((am_u zM14 (3, 0, 22) (zM14 (3, 0, 0) 14).toNatClampNeg (vp_nar .boolean a1)) (3, 0, 0) 14).toNatClampNeg a2) (3, 0, 0) 14)).toNatClampNeg a3) (3, 0, 0) 14)) + 1).toNatClampNeg a4) (3, 0, 21) ((4 * ((am_u (am_u (am_u (am_u zM14 (3, 0, 22) (zM14 (3, 0, 0) 14).toNatClampNeg (vp_nar .boolean a1)) (3, 0, 20) ((am_u zM14 (3, 0, 22) (zM14 (3, 0, 0) 14).toNatClampNeg (vp_nar .boolean a1)) (3, 0, 0) 14).toNatClampNeg a2) (3, 0, 21) (4 * ((am_u (am_u zM14 (3, 0, 22) (zM14 (3, 0, 0) 14).toNatClampNeg (vp_nar .boolean a1)) (3, 0, 20) ((am_u zM14 (3, 0, 22) (zM14 (3, 0, 0) 14).toNatClampNeg (vp_nar .boolean a1)) (3, 0, 0) 14).toNatClampNeg a2) (3, 0, 0) 14)).toNatClampNeg a3) (3, 0, 21) ((4 * ((am_u (am_u (am_u zM14 (3, 0, 22) (zM14 (3, 0, 0) 14).toNatClampNeg (vp_nar .boolean a1)) (3, 0, 20) ((am_u zM14 (3, 0, 22) (zM14 (3, 0, 0) 14).toNatClampNeg (vp_nar .boolean a1)) (3, 0, 0) 14).toNatClampNeg a2) (3, 0, 21) (4 * ((am_u (am_u zM14 (3, 0, 22) (zM14 (3, 0, 0) 14).toNatClampNeg (vp_nar .boolean a1)) (3, 0, 20) ((am_u zM14 (3, 0, 22) (zM14 (3, 0, 0) 14).toNatClampNeg (vp_nar .boolean a1)) (3, 0, 0) 14).toNatClampNeg a2) (3, 0, 0) 14)).toNatClampNeg a3) (3, 0, 0) 14)) + 1).toNatClampNeg a4) (3, 0, 0) 14)) + 2).toNatClampNeg a5) (3, 0, 21) ((4 * ((am_u (am_u (am_u (am_u (am_u zM14 (3, 0, 22) (zM14 (3, 0, 0) 14).toNatClampNeg (vp_nar .boolean a1)) (3, 0, 20) ((am_u zM14 (3, 0, 22) (zM14 (3, 0, 0) 14).toNatClampNeg (vp_nar .boolean a1)) (3, 0, 0) 14).toNatClampNeg a2) (3, 0, 21) (4 * ((am_u (am_u zM14 (3, 0, 22) (zM14 (3, 0, 0) 14).toNatClampNeg (vp_nar .boolean a1)) (3, 0, 20) ((am_u zM14 (3, 0, 22) (zM14 (3, 0, 0) 14).toNatClampNeg (vp_nar .boolean a1)) (3, 0, 0) 14).toNatClampNeg a2) (3, 0, 0) 14)).toNatClampNeg a3) (3, 0, 21) ((4 * ((am_u (am_u (am_u zM14 (3, 0, 22) (zM14 (3, 0, 0) 14).toNatClampNeg (vp_nar .boolean a1)) (3, 0, 20) ((am_u zM14 (3, 0, 22) (zM14 (3, 0, 0) 14).toNatClampNeg (vp_nar .boolean a1)) (3, 0, 0) 14).toNatClampNeg a2) (3, 0, 21) (4 * ((am_u (am_u zM14 (3, 0, 22) (zM14 (3, 0, 0) 14).toNatClampNeg (vp_nar .boolean a1)) (3, 0, 20) ((am_u zM14 (3, 0, 22) (zM14 (3, 0, 0) 14).toNatClampNeg (vp_nar .boolean a1)) (3, 0, 0) 14).toNatClampNeg a2) (3, 0, 0) 14)).toNatClampNeg a3) (3, 0, 0) 14)) + 1).toNatClampNeg a4) (3, 0, 21) ((4 * ((am_u (am_u (am_u (am_u zM14 (3, 0, 22) (zM14 (3, 0, 0) 14).toNatClampNeg (vp_nar .boolean a1)) (3, 0, 20) ((am_u zM14 (3, 0, 22) (zM14 (3, 0, 0) 14).toNatClampNeg (vp_nar .boolean a1)) (3, 0, 0) 14).toNatClampNeg a2) (3, 0, 21) (4 * ((am_u (am_u zM14 (3, 0, 22) (zM14 (3, 0, 0) 14).toNatClampNeg (vp_nar .boolean a1)) (3, 0, 20) ((am_u zM14 (3, 0, 22) (zM14 (3, 0, 0) 14).toNatClampNeg (vp_nar .boolean a1)) (3, 0, 0) 14).toNatClampNeg a2) (3, 0, 0) 14)).toNatClampNeg a3) (3, 0, 21) ((4 * ((am_u (am_u (am_u zM14 (3, 0, 22) (zM14 (3, 0, 0) 14).toNatClampNeg (vp_nar .boolean a1)) (3, 0, 20) ((am_u zM14 (3, 0, 22) (zM14 (3, 0, 0) 14).toNatClampNeg (vp_nar .boolean a1)) (3, 0, 0) 14).toNatClampNeg a2) (3, 0, 21) (4 * ((am_u (am_u zM14 (3, 0, 22) (zM14 (3, 0, 0) 14).toNatClampNeg (vp_nar .boolean a1)) (3, 0, 20) ((am_u zM14 (3, 0, 22) (zM14 (3, 0, 0) 14).toNatClampNeg (vp_nar .boolean a1)) (3, 0, 0) 14).toNatClampNeg a2) (3, 0, 0) 14)).toNatClampNeg a3) (3, 0, 0) 14)) + 1).toNatClampNeg a4) (3, 0, 0) 14)) + 2).toNatClampNeg a5) (3, 0, 0) 14)) + 3).toNatClampNeg a6) (3, 0, 0) 14 (((am_u (am_u (am_u (am_u (am_u (am_u zM14 (3, 0, 22) (zM14 (3, 0, 0) 14).toNatClampNeg (vp_nar .boolean a1)) (3, 0, 20) ((am_u zM14 (3, 0, 22) (zM14 (3, 0, 0) 14).toNatClampNeg (vp_nar .boolean a1)) (3, 0, 0) 14).toNatClampNeg a2) (3, 0, 21) (4 * ((am_u (am_u zM14 (3, 0, 22) (zM14 (3, 0, 0) 14).toNatClampNeg (vp_nar .boolean a1)) (3, 0, 20) ((am_u zM14 (3, 0, 22) (zM14 (3, 0, 0) 14).toNatClampNeg (vp_nar .boolean a1)) (3, 0, 0) 14).toNatClampNeg a2) (3, 0, 0) 14)).toNatClampNeg a3) (3, 0, 21) ((4 * ((am_u (am_u (am_u zM14 (3, 0, 22) (zM14 (3, 0, 0) 14).toNatClampNeg (vp_nar .boolean a1)) (3, 0, 20) ((am_u zM14 (3, 0, 22) (zM14 (3, 0, 0) 14).toNatClampNeg (vp_nar .boolean a1)) (3, 0, 0) 14).toNatClampNeg a2) (3, 0, 21) (4 * ((am_u (am_u zM14 (3, 0, 22) (zM14 (3, 0, 0) 14).toNatClampNeg (vp_nar .boolean a1)) (3, 0, 20) ((am_u zM14 (3, 0, 22) (zM14 (3, 0, 0) 14).toNatClampNeg (vp_nar .boolean a1)) (3, 0, 0) 14).toNatClampNeg a2) (3, 0, 0) 14)).toNatClampNeg a3) (3, 0, 0) 14)) + 1).toNatClampNeg a4) (3, 0, 21) ((4 * ((am_u (am_u (am_u (am_u zM14 (3, 0, 22) (zM14 (3, 0, 0) 14).toNatClampNeg (vp_nar .boolean a1)) (3, 0, 20) ((am_u zM14 (3, 0, 22) (zM14 (3, 0, 0) 14).toNatClampNeg (vp_nar .boolean a1)) (3, 0, 0) 14).toNatClampNeg a2) (3, 0, 21) (4 * ((am_u (am_u zM14 (3, 0, 22) (zM14 (3, 0, 0) 14).toNatClampNeg (vp_nar .boolean a1)) (3, 0, 20) ((am_u zM14 (3, 0, 22) (zM14 (3, 0, 0) 14).toNatClampNeg (vp_nar .boolean a1)) (3, 0, 0) 14).toNatClampNeg a2) (3, 0, 0) 14)).toNatClampNeg a3) (3, 0, 21) ((4 * ((am_u (am_u (am_u zM14 (3, 0, 22) (zM14 (3, 0, 0) 14).toNatClampNeg (vp_nar .boolean a1)) (3, 0, 20) ((am_u zM14 (3, 0, 22) (zM14 (3, 0, 0) 14).toNatClampNeg (vp_nar .boolean a1)) (3, 0, 0) 14).toNatClampNeg a2) (3, 0, 21) (4 * ((am_u (am_u zM14 (3, 0, 22) (zM14 (3, 0, 0) 14).toNatClampNeg (vp_nar .boolean a1)) (3, 0, 20) ((am_u zM14 (3, 0, 22) (zM14 (3, 0, 0) 14).toNatClampNeg (vp_nar .boolean a1)) (3, 0, 0) 14).toNatClampNeg a2) (3, 0, 0) 14)).toNatClampNeg a3) (3, 0, 0) 14)) + 1).toNatClampNeg a4) (3, 0, 0) 14)) + 2).toNatClampNeg a5) (3, 0, 21) ((4 * ((am_u (am_u (am_u (am_u (am_u zM14 (3, 0, 22) (zM14 (3, 0, 0) 14).toNatClampNeg (vp_nar .boolean a1)) (3, 0, 20) ((am_u zM14 (3, 0, 22) (zM14 (3, 0, 0) 14).toNatClampNeg (vp_nar .boolean a1)) (3, 0, 0) 14).toNatClampNeg a2) (3, 0, 21) (4 * ((am_u (am_u zM14 (3, 0, 22) (zM14 (3, 0, 0) 14).toNatClampNeg (vp_nar .boolean a1)) (3, 0, 20) ((am_u zM14 (3, 0, 22) (zM14 (3, 0, 0) 14).toNatClampNeg (vp_nar .boolean a1)) (3, 0, 0) 14).toNatClampNeg a2) (3, 0, 0) 14)).toNatClampNeg a3) (3, 0, 21) ((4 * ((am_u (am_u (am_u zM14 (3, 0, 22) (zM14 (3, 0, 0) 14).toNatClampNeg (vp_nar .boolean a1)) (3, 0, 20) ((am_u zM14 (3, 0, 22) (zM14 (3, 0, 0) 14).toNatClampNeg (vp_nar .boolean a1)) (3, 0, 0) 14).toNatClampNeg a2) (3, 0, 21) (4 * ((am_u (am_u zM14 (3, 0, 22) (zM14 (3, 0, 0) 14).toNatClampNeg (vp_nar .boolean a1)) (3, 0, 20) ((am_u zM14 (3, 0, 22) (zM14 (3, 0, 0) 14).toNatClampNeg (vp_nar .boolean a1)) (3, 0, 0) 14).toNatClampNeg a2) (3, 0, 0) 14)).toNatClampNeg a3) (3, 0, 0) 14)) + 1).toNatClampNeg a4) (3, 0, 21) ((4 * ((am_u (am_u (am_u (am_u zM14 (3, 0, 22) (zM14 (3, 0, 0) 14).toNatClampNeg (vp_nar .boolean a1)) (3, 0, 20) ((am_u zM14 (3, 0, 22) (zM14 (3, 0, 0) 14).toNatClampNeg (vp_nar .boolean a1)) (3, 0, 0) 14).toNatClampNeg a2) (3, 0, 21) (4 * ((am_u (am_u zM14 (3, 0, 22) (zM14 (3, 0, 0) 14).toNatClampNeg (vp_nar .boolean a1)) (3, 0, 20) ((am_u zM14 (3, 0, 22) (zM14 (3, 0, 0) 14).toNatClampNeg (vp_nar .boolean a1)) (3, 0, 0) 14).toNatClampNeg a2) (3, 0, 0) 14)).toNatClampNeg a3) (3, 0, 21) ((4 * ((am_u (am_u (am_u zM14 (3, 0, 22) (zM14 (3, 0, 0) 14).toNatClampNeg (vp_nar .boolean a1)) (3, 0, 20) ((am_u zM14 (3, 0, 22) (zM14 (3, 0, 0) 14).toNatClampNeg (vp_nar .boolean a1)) (3, 0, 0) 14).toNatClampNeg a2) (3, 0, 21) (4 * ((am_u (am_u zM14 (3, 0, 22) (zM14 (3, 0, 0) 14).toNatClampNeg (vp_nar .boolean a1)) (3, 0, 20) ((am_u zM14 (3, 0, 22) (zM14 (3, 0, 0) 14).toNatClampNeg (vp_nar .boolean a1)) (3, 0, 0) 14).toNatClampNeg a2) (3, 0, 0) 14)).toNatClampNeg a3) (3, 0, 0) 14)) + 1).toNatClampNeg a4) (3, 0, 0) 14)) + 2).toNatClampNeg a5) (3, 0, 0) 14)) + 3).toNatClampNeg a6) (3, 0, 0) 14) + 1)) zN15 (fun zM16 zN17 => post ((zM16 (3, 0, 0) 14) - 1) zM16 zN17)) ∧ ((zM14 (3, 0, 0) 4) = 400 → post (-1) zM14 zN15)))))))))))))))))))
set_option maxRecDepth 10000 in
theorem k_X12_kind {d : Nat} {dm : List am_C} (h3 : am_d3 dm) {a1 : Int32} {a2 : Int32} {a3 : Int32} {a4 : Int32} {a5 : Int32} {a6 : Int32} {M : am_I} {N : am_N} {post : Int32 → am_I → am_N → Prop} (h : w_X12_kind a1 a2 a3 a4 a5 a6 M N post) : jg (d + 5) mX12_kind dm 0 [(0, .inr (.inr (3, 0, 0))), (1, .inl a1), (2, .inl a2), (3, .inl a3), (4, .inl a4), (5, .inl a5), (6, .inl a6)] [] M N (am_pi post) := by
  refine j_iload_n 2 dX12_kind_0 rfl ?_
  refine j_iconst (v := 1) dX12_kind_1 (by decide) ?_
  refine j_bipush (v := 100) dX12_kind_2 (by decide) ?_
  refine j_invS (As := [.inl a2, .inl 1, .inl 100]) dX12_kind_4 msRX12_162 mbX12_isIn rfl rfl (Nat.le_of_ble_eq_true rfl) (Nat.le_of_ble_eq_true rfl) (by omega) (k_X12_isIn (d := d + 3)  h) ?_
  rintro _ zM2 zN3 ⟨zr1, rfl, h⟩
  refine j_if_eq (tgt := 71) dX12_kind_7 (by decide) (fun hc => ?_) (fun hc => ?_)
  · replace h := h.1 hc
    refine j_iconst (v := (-1)) dX12_kind_71 (by decide) ?_
    exact j_iret dX12_kind_72 rfl ⟨_, rfl, h⟩
  · replace h := h.2 hc
    refine j_iload_n 3 dX12_kind_10 rfl ?_
    refine j_iconst (v := 1) dX12_kind_11 (by decide) ?_
    refine j_bipush (v := 99) dX12_kind_12 (by decide) ?_
    refine j_invS (As := [.inl a3, .inl 1, .inl 99]) dX12_kind_14 msRX12_162 mbX12_isIn rfl rfl (Nat.le_of_ble_eq_true rfl) (Nat.le_of_ble_eq_true rfl) (by omega) (k_X12_isIn (d := d + 3)  h) ?_
    rintro _ zM5 zN6 ⟨zr4, rfl, h⟩
    refine j_if_eq (tgt := 71) dX12_kind_17 (by decide) (fun hc => ?_) (fun hc => ?_)
    · replace h := h.1 hc
      refine j_iconst (v := (-1)) dX12_kind_71 (by decide) ?_
      exact j_iret dX12_kind_72 rfl ⟨_, rfl, h⟩
    · replace h := h.2 hc
      refine j_iload 4 dX12_kind_20 rfl ?_
      refine j_iconst (v := 1) dX12_kind_22 (by decide) ?_
      refine j_bipush (v := 99) dX12_kind_23 (by decide) ?_
      refine j_invS (As := [.inl a4, .inl 1, .inl 99]) dX12_kind_25 msRX12_162 mbX12_isIn rfl rfl (Nat.le_of_ble_eq_true rfl) (Nat.le_of_ble_eq_true rfl) (by omega) (k_X12_isIn (d := d + 3)  h) ?_
      rintro _ zM8 zN9 ⟨zr7, rfl, h⟩
      refine j_if_eq (tgt := 71) dX12_kind_28 (by decide) (fun hc => ?_) (fun hc => ?_)
      · replace h := h.1 hc
        refine j_iconst (v := (-1)) dX12_kind_71 (by decide) ?_
        exact j_iret dX12_kind_72 rfl ⟨_, rfl, h⟩
      · replace h := h.2 hc
        refine j_iload 5 dX12_kind_31 rfl ?_
        refine j_iconst (v := 1) dX12_kind_33 (by decide) ?_
        refine j_bipush (v := 99) dX12_kind_34 (by decide) ?_
        refine j_invS (As := [.inl a5, .inl 1, .inl 99]) dX12_kind_36 msRX12_162 mbX12_isIn rfl rfl (Nat.le_of_ble_eq_true rfl) (Nat.le_of_ble_eq_true rfl) (by omega) (k_X12_isIn (d := d + 3)  h) ?_
        rintro _ zM11 zN12 ⟨zr10, rfl, h⟩
        refine j_if_eq (tgt := 71) dX12_kind_39 (by decide) (fun hc => ?_) (fun hc => ?_)
        · replace h := h.1 hc
          refine j_iconst (v := (-1)) dX12_kind_71 (by decide) ?_
          exact j_iret dX12_kind_72 rfl ⟨_, rfl, h⟩
        · replace h := h.2 hc
          refine j_iload 6 dX12_kind_42 rfl ?_
          refine j_iconst (v := 1) dX12_kind_44 (by decide) ?_
          refine j_bipush (v := 99) dX12_kind_45 (by decide) ?_
          refine j_invS (As := [.inl a6, .inl 1, .inl 99]) dX12_kind_47 msRX12_162 mbX12_isIn rfl rfl (Nat.le_of_ble_eq_true rfl) (Nat.le_of_ble_eq_true rfl) (by omega) (k_X12_isIn (d := d + 3)  h) ?_
          rintro _ zM14 zN15 ⟨zr13, rfl, h⟩
          refine j_if_eq (tgt := 71) dX12_kind_50 (by decide) (fun hc => ?_) (fun hc => ?_)
          · replace h := h.1 hc
            refine j_iconst (v := (-1)) dX12_kind_71 (by decide) ?_
            exact j_iret dX12_kind_72 rfl ⟨_, rfl, h⟩
          · replace h := h.2 hc
            refine j_aload_n 0 dX12_kind_53 rfl ?_
            refine j_getI dX12_kind_54 fsRX12_225 (h3 0 (by decide)) rfl ?_
            refine j_iconst (v := 5) dX12_kind_57 (by decide) ?_
            refine j_icmp_eq (tgt := 71) dX12_kind_58 (by decide) (fun hc => ?_) (fun hc => ?_)
            · replace h := h.1 hc
              refine j_iconst (v := (-1)) dX12_kind_71 (by decide) ?_
              exact j_iret dX12_kind_72 rfl ⟨_, rfl, h⟩
            · replace h := h.2 hc
              refine j_aload_n 0 dX12_kind_61 rfl ?_
              refine j_getI dX12_kind_62 fsRX12_175 (h3 0 (by decide)) rfl ?_
              refine j_sipush (v := 400) dX12_kind_65 (by decide) ?_
              refine j_icmp_ne (tgt := 73) dX12_kind_68 (by decide) (fun hc => ?_) (fun hc => ?_)
              · replace h := h.1 hc
                refine j_aload_n 0 dX12_kind_73 rfl ?_
                refine j_getR (b := (3, 0, 22)) dX12_kind_74 fsRX12_73 (h3 0 (by decide)) rfl rfl ?_
                refine j_aload_n 0 dX12_kind_77 rfl ?_
                refine j_getI dX12_kind_78 fsRX12_225 (h3 0 (by decide)) rfl ?_
                refine j_iload_n 1 dX12_kind_81 rfl ?_
                obtain ⟨hq, h⟩ := h
                refine j_zast dX12_kind_82 (h3 22 (by decide)) rfl hq ?_
                refine j_aload_n 0 dX12_kind_83 rfl ?_
                refine j_getR (b := (3, 0, 20)) dX12_kind_84 fsRX12_67 (h3 0 (by decide)) rfl rfl ?_
                refine j_aload_n 0 dX12_kind_87 rfl ?_
                refine j_getI dX12_kind_88 fsRX12_225 (h3 0 (by decide)) rfl ?_
                refine j_iload_n 2 dX12_kind_91 rfl ?_
                obtain ⟨hq, h⟩ := h
                refine j_iast dX12_kind_92 (h3 20 (by decide)) rfl hq ?_
                refine j_aload_n 0 dX12_kind_93 rfl ?_
                refine j_getR (b := (3, 0, 21)) dX12_kind_94 fsRX12_70 (h3 0 (by decide)) rfl rfl ?_
                refine j_iconst (v := 4) dX12_kind_97 (by decide) ?_
                refine j_aload_n 0 dX12_kind_98 rfl ?_
                refine j_getI dX12_kind_99 fsRX12_225 (h3 0 (by decide)) rfl ?_
                refine j_imul dX12_kind_102 ?_
                refine j_iload_n 3 dX12_kind_103 rfl ?_
                obtain ⟨hq, h⟩ := h
                refine j_iast dX12_kind_104 (h3 21 (by decide)) rfl hq ?_
                refine j_aload_n 0 dX12_kind_105 rfl ?_
                refine j_getR (b := (3, 0, 21)) dX12_kind_106 fsRX12_70 (h3 0 (by decide)) rfl rfl ?_
                refine j_iconst (v := 4) dX12_kind_109 (by decide) ?_
                refine j_aload_n 0 dX12_kind_110 rfl ?_
                refine j_getI dX12_kind_111 fsRX12_225 (h3 0 (by decide)) rfl ?_
                refine j_imul dX12_kind_114 ?_
                refine j_iconst (v := 1) dX12_kind_115 (by decide) ?_
                refine j_iadd dX12_kind_116 ?_
                refine j_iload 4 dX12_kind_117 rfl ?_
                obtain ⟨hq, h⟩ := h
                refine j_iast dX12_kind_119 (h3 21 (by decide)) rfl hq ?_
                refine j_aload_n 0 dX12_kind_120 rfl ?_
                refine j_getR (b := (3, 0, 21)) dX12_kind_121 fsRX12_70 (h3 0 (by decide)) rfl rfl ?_
                refine j_iconst (v := 4) dX12_kind_124 (by decide) ?_
                refine j_aload_n 0 dX12_kind_125 rfl ?_
                refine j_getI dX12_kind_126 fsRX12_225 (h3 0 (by decide)) rfl ?_
                refine j_imul dX12_kind_129 ?_
                refine j_iconst (v := 2) dX12_kind_130 (by decide) ?_
                refine j_iadd dX12_kind_131 ?_
                refine j_iload 5 dX12_kind_132 rfl ?_
                obtain ⟨hq, h⟩ := h
                refine j_iast dX12_kind_134 (h3 21 (by decide)) rfl hq ?_
                refine j_aload_n 0 dX12_kind_135 rfl ?_
                refine j_getR (b := (3, 0, 21)) dX12_kind_136 fsRX12_70 (h3 0 (by decide)) rfl rfl ?_
                refine j_iconst (v := 4) dX12_kind_139 (by decide) ?_
                refine j_aload_n 0 dX12_kind_140 rfl ?_
                refine j_getI dX12_kind_141 fsRX12_225 (h3 0 (by decide)) rfl ?_
                refine j_imul dX12_kind_144 ?_
                refine j_iconst (v := 3) dX12_kind_145 (by decide) ?_
                refine j_iadd dX12_kind_146 ?_
                refine j_iload 6 dX12_kind_147 rfl ?_
                obtain ⟨hq, h⟩ := h
                refine j_iast dX12_kind_149 (h3 21 (by decide)) rfl hq ?_
                refine j_aload_n 0 dX12_kind_150 rfl ?_
                refine j_dup dX12_kind_151 rfl ?_
                refine j_getI dX12_kind_152 fsRX12_225 (h3 0 (by decide)) rfl ?_
                refine j_iconst (v := 1) dX12_kind_155 (by decide) ?_
                refine j_iadd dX12_kind_156 ?_
                refine j_putI dX12_kind_157 fwRX12_225 (h3 0 (by decide)) rfl ?_
                refine j_aload_n 0 dX12_kind_160 rfl ?_
                refine j_bipush (v := 7) dX12_kind_161 (by decide) ?_
                refine j_iconst (v := 0) dX12_kind_163 (by decide) ?_
                refine j_iconst (v := 0) dX12_kind_164 (by decide) ?_
                refine j_iconst (v := 0) dX12_kind_165 (by decide) ?_
                refine j_invV (As := [.inl 7, .inl 0, .inl 0, .inl 0]) dX12_kind_166 msRX12_203 mbX12_tells rfl rfl (Nat.le_of_ble_eq_true rfl) (Nat.le_of_ble_eq_true rfl) (by omega) (h3 0 (by decide)) rfl rfl (k_X12_tells (d := d + 0) h3 h) ?_
                rintro _ zM16 zN17 ⟨rfl, h⟩
                refine j_aload_n 0 dX12_kind_169 rfl ?_
                refine j_getI dX12_kind_170 fsRX12_225 (h3 0 (by decide)) rfl ?_
                refine j_iconst (v := 1) dX12_kind_173 (by decide) ?_
                refine j_isub dX12_kind_174 ?_
                exact j_iret dX12_kind_175 rfl ⟨_, rfl, h⟩
              · replace h := h.2 hc
                refine j_iconst (v := (-1)) dX12_kind_71 (by decide) ?_
                exact j_iret dX12_kind_72 rfl ⟨_, rfl, h⟩
def w_X12_plant (a1 : Int32) (M : am_I) (N : am_N) (post : Int32 → am_I → am_N → Prop) : Prop :=
  w_X12_isCell a1 M N (fun zr1 zM2 zN3 => ((zr1 = 0 → post 0 zM2 zN3) ∧ (¬ zr1 = 0 → w_X12_has a1 zM2 zN3 (fun zr4 zM5 zN6 => ((¬ zr4 = 0 → post 0 zM5 zN6) ∧ (zr4 = 0 → (((zM5 (3, 0, 0) 14) = 0 → post 0 zM5 zN6) ∧ (¬ (zM5 (3, 0, 0) 14) = 0 → ((¬ (zM5 (3, 0, 0) 4) = 400 → w_X12_tells 8 a1 0 0 zM5 zN6 (fun zM7 zN8 => post 1 zM7 zN8)) ∧ ((zM5 (3, 0, 0) 4) = 400 → post 0 zM5 zN6))))))))))
set_option maxRecDepth 10000 in
theorem k_X12_plant {d : Nat} {dm : List am_C} (h3 : am_d3 dm) {a1 : Int32} {M : am_I} {N : am_N} {post : Int32 → am_I → am_N → Prop} (h : w_X12_plant a1 M N post) : jg (d + 5) mX12_plant dm 0 [(0, .inr (.inr (3, 0, 0))), (1, .inl a1)] [] M N (am_pi post) := by
  refine j_iload_n 1 dX12_plant_0 rfl ?_
  refine j_invS (As := [.inl a1]) dX12_plant_1 msRX12_199 mbX12_isCell rfl rfl (Nat.le_of_ble_eq_true rfl) (Nat.le_of_ble_eq_true rfl) (by omega) (k_X12_isCell (d := d + 2)  h) ?_
  rintro _ zM2 zN3 ⟨zr1, rfl, h⟩
  refine j_if_eq (tgt := 32) dX12_plant_4 (by decide) (fun hc => ?_) (fun hc => ?_)
  · replace h := h.1 hc
    refine j_iconst (v := 0) dX12_plant_32 (by decide) ?_
    exact j_zret dX12_plant_33 rfl (Or.inl rfl) ⟨_, rfl, h⟩
  · replace h := h.2 hc
    refine j_aload_n 0 dX12_plant_7 rfl ?_
    refine j_iload_n 1 dX12_plant_8 rfl ?_
    refine j_invV (As := [.inl a1]) dX12_plant_9 msRX12_228 mbX12_has rfl rfl (Nat.le_of_ble_eq_true rfl) (Nat.le_of_ble_eq_true rfl) (by omega) (h3 0 (by decide)) rfl rfl (k_X12_has (d := d + 1) h3 h) ?_
    rintro _ zM5 zN6 ⟨zr4, rfl, h⟩
    refine j_if_ne (tgt := 32) dX12_plant_12 (by decide) (fun hc => ?_) (fun hc => ?_)
    · replace h := h.1 hc
      refine j_iconst (v := 0) dX12_plant_32 (by decide) ?_
      exact j_zret dX12_plant_33 rfl (Or.inl rfl) ⟨_, rfl, h⟩
    · replace h := h.2 hc
      refine j_aload_n 0 dX12_plant_15 rfl ?_
      refine j_getI dX12_plant_16 fsRX12_225 (h3 0 (by decide)) rfl ?_
      refine j_if_eq (tgt := 32) dX12_plant_19 (by decide) (fun hc => ?_) (fun hc => ?_)
      · replace h := h.1 hc
        refine j_iconst (v := 0) dX12_plant_32 (by decide) ?_
        exact j_zret dX12_plant_33 rfl (Or.inl rfl) ⟨_, rfl, h⟩
      · replace h := h.2 hc
        refine j_aload_n 0 dX12_plant_22 rfl ?_
        refine j_getI dX12_plant_23 fsRX12_175 (h3 0 (by decide)) rfl ?_
        refine j_sipush (v := 400) dX12_plant_26 (by decide) ?_
        refine j_icmp_ne (tgt := 34) dX12_plant_29 (by decide) (fun hc => ?_) (fun hc => ?_)
        · replace h := h.1 hc
          refine j_aload_n 0 dX12_plant_34 rfl ?_
          refine j_bipush (v := 8) dX12_plant_35 (by decide) ?_
          refine j_iload_n 1 dX12_plant_37 rfl ?_
          refine j_iconst (v := 0) dX12_plant_38 (by decide) ?_
          refine j_iconst (v := 0) dX12_plant_39 (by decide) ?_
          refine j_invV (As := [.inl 8, .inl a1, .inl 0, .inl 0]) dX12_plant_40 msRX12_203 mbX12_tells rfl rfl (Nat.le_of_ble_eq_true rfl) (Nat.le_of_ble_eq_true rfl) (by omega) (h3 0 (by decide)) rfl rfl (k_X12_tells (d := d + 0) h3 h) ?_
          rintro _ zM7 zN8 ⟨rfl, h⟩
          refine j_iconst (v := 1) dX12_plant_43 (by decide) ?_
          exact j_zret dX12_plant_44 rfl (Or.inr rfl) ⟨_, rfl, h⟩
        · replace h := h.2 hc
          refine j_iconst (v := 0) dX12_plant_32 (by decide) ?_
          exact j_zret dX12_plant_33 rfl (Or.inl rfl) ⟨_, rfl, h⟩
def w_X12_show (a1 : Int32) (a2 : Int32) (M : am_I) (N : am_N) (post : Int32 → am_I → am_N → Prop) : Prop :=
  w_X12_isCell a1 M N (fun zr1 zM2 zN3 => ((zr1 = 0 → post 0 zM2 zN3) ∧ (¬ zr1 = 0 → w_X12_isIn a2 0 15 zM2 zN3 (fun zr4 zM5 zN6 => ((zr4 = 0 → post 0 zM5 zN6) ∧ (¬ zr4 = 0 → ((¬ (zM5 (3, 0, 0) 4) = 400 → w_X12_tells 9 a1 a2 0 zM5 zN6 (fun zM7 zN8 => post 1 zM7 zN8)) ∧ ((zM5 (3, 0, 0) 4) = 400 → post 0 zM5 zN6))))))))
set_option maxRecDepth 10000 in
theorem k_X12_show {d : Nat} {dm : List am_C} (h3 : am_d3 dm) {a1 : Int32} {a2 : Int32} {M : am_I} {N : am_N} {post : Int32 → am_I → am_N → Prop} (h : w_X12_show a1 a2 M N post) : jg (d + 5) mX12_show dm 0 [(0, .inr (.inr (3, 0, 0))), (1, .inl a1), (2, .inl a2)] [] M N (am_pi post) := by
  refine j_iload_n 1 dX12_show_0 rfl ?_
  refine j_invS (As := [.inl a1]) dX12_show_1 msRX12_199 mbX12_isCell rfl rfl (Nat.le_of_ble_eq_true rfl) (Nat.le_of_ble_eq_true rfl) (by omega) (k_X12_isCell (d := d + 2)  h) ?_
  rintro _ zM2 zN3 ⟨zr1, rfl, h⟩
  refine j_if_eq (tgt := 27) dX12_show_4 (by decide) (fun hc => ?_) (fun hc => ?_)
  · replace h := h.1 hc
    refine j_iconst (v := 0) dX12_show_27 (by decide) ?_
    exact j_zret dX12_show_28 rfl (Or.inl rfl) ⟨_, rfl, h⟩
  · replace h := h.2 hc
    refine j_iload_n 2 dX12_show_7 rfl ?_
    refine j_iconst (v := 0) dX12_show_8 (by decide) ?_
    refine j_bipush (v := 15) dX12_show_9 (by decide) ?_
    refine j_invS (As := [.inl a2, .inl 0, .inl 15]) dX12_show_11 msRX12_162 mbX12_isIn rfl rfl (Nat.le_of_ble_eq_true rfl) (Nat.le_of_ble_eq_true rfl) (by omega) (k_X12_isIn (d := d + 3)  h) ?_
    rintro _ zM5 zN6 ⟨zr4, rfl, h⟩
    refine j_if_eq (tgt := 27) dX12_show_14 (by decide) (fun hc => ?_) (fun hc => ?_)
    · replace h := h.1 hc
      refine j_iconst (v := 0) dX12_show_27 (by decide) ?_
      exact j_zret dX12_show_28 rfl (Or.inl rfl) ⟨_, rfl, h⟩
    · replace h := h.2 hc
      refine j_aload_n 0 dX12_show_17 rfl ?_
      refine j_getI dX12_show_18 fsRX12_175 (h3 0 (by decide)) rfl ?_
      refine j_sipush (v := 400) dX12_show_21 (by decide) ?_
      refine j_icmp_ne (tgt := 29) dX12_show_24 (by decide) (fun hc => ?_) (fun hc => ?_)
      · replace h := h.1 hc
        refine j_aload_n 0 dX12_show_29 rfl ?_
        refine j_bipush (v := 9) dX12_show_30 (by decide) ?_
        refine j_iload_n 1 dX12_show_32 rfl ?_
        refine j_iload_n 2 dX12_show_33 rfl ?_
        refine j_iconst (v := 0) dX12_show_34 (by decide) ?_
        refine j_invV (As := [.inl 9, .inl a1, .inl a2, .inl 0]) dX12_show_35 msRX12_203 mbX12_tells rfl rfl (Nat.le_of_ble_eq_true rfl) (Nat.le_of_ble_eq_true rfl) (by omega) (h3 0 (by decide)) rfl rfl (k_X12_tells (d := d + 0) h3 h) ?_
        rintro _ zM7 zN8 ⟨rfl, h⟩
        refine j_iconst (v := 1) dX12_show_38 (by decide) ?_
        exact j_zret dX12_show_39 rfl (Or.inr rfl) ⟨_, rfl, h⟩
      · replace h := h.2 hc
        refine j_iconst (v := 0) dX12_show_27 (by decide) ?_
        exact j_zret dX12_show_28 rfl (Or.inl rfl) ⟨_, rfl, h⟩
def w_X12_look (a1 : Int32) (a2 : Int32) (M : am_I) (N : am_N) (post : Int32 → am_I → am_N → Prop) : Prop :=
  w_X12_has a1 M N (fun zr1 zM2 zN3 => ((zr1 = 0 → post 0 zM2 zN3) ∧ (¬ zr1 = 0 → w_X12_isIn a2 0 15 zM2 zN3 (fun zr4 zM5 zN6 => ((zr4 = 0 → post 0 zM5 zN6) ∧ (¬ zr4 = 0 → ((¬ (zM5 (3, 0, 0) 4) = 400 → w_X12_tells 10 a1 a2 0 zM5 zN6 (fun zM7 zN8 => post 1 zM7 zN8)) ∧ ((zM5 (3, 0, 0) 4) = 400 → post 0 zM5 zN6))))))))
set_option maxRecDepth 10000 in
theorem k_X12_look {d : Nat} {dm : List am_C} (h3 : am_d3 dm) {a1 : Int32} {a2 : Int32} {M : am_I} {N : am_N} {post : Int32 → am_I → am_N → Prop} (h : w_X12_look a1 a2 M N post) : jg (d + 5) mX12_look dm 0 [(0, .inr (.inr (3, 0, 0))), (1, .inl a1), (2, .inl a2)] [] M N (am_pi post) := by
  refine j_aload_n 0 dX12_look_0 rfl ?_
  refine j_iload_n 1 dX12_look_1 rfl ?_
  refine j_invV (As := [.inl a1]) dX12_look_2 msRX12_228 mbX12_has rfl rfl (Nat.le_of_ble_eq_true rfl) (Nat.le_of_ble_eq_true rfl) (by omega) (h3 0 (by decide)) rfl rfl (k_X12_has (d := d + 1) h3 h) ?_
  rintro _ zM2 zN3 ⟨zr1, rfl, h⟩
  refine j_if_eq (tgt := 28) dX12_look_5 (by decide) (fun hc => ?_) (fun hc => ?_)
  · replace h := h.1 hc
    refine j_iconst (v := 0) dX12_look_28 (by decide) ?_
    exact j_zret dX12_look_29 rfl (Or.inl rfl) ⟨_, rfl, h⟩
  · replace h := h.2 hc
    refine j_iload_n 2 dX12_look_8 rfl ?_
    refine j_iconst (v := 0) dX12_look_9 (by decide) ?_
    refine j_bipush (v := 15) dX12_look_10 (by decide) ?_
    refine j_invS (As := [.inl a2, .inl 0, .inl 15]) dX12_look_12 msRX12_162 mbX12_isIn rfl rfl (Nat.le_of_ble_eq_true rfl) (Nat.le_of_ble_eq_true rfl) (by omega) (k_X12_isIn (d := d + 3)  h) ?_
    rintro _ zM5 zN6 ⟨zr4, rfl, h⟩
    refine j_if_eq (tgt := 28) dX12_look_15 (by decide) (fun hc => ?_) (fun hc => ?_)
    · replace h := h.1 hc
      refine j_iconst (v := 0) dX12_look_28 (by decide) ?_
      exact j_zret dX12_look_29 rfl (Or.inl rfl) ⟨_, rfl, h⟩
    · replace h := h.2 hc
      refine j_aload_n 0 dX12_look_18 rfl ?_
      refine j_getI dX12_look_19 fsRX12_175 (h3 0 (by decide)) rfl ?_
      refine j_sipush (v := 400) dX12_look_22 (by decide) ?_
      refine j_icmp_ne (tgt := 30) dX12_look_25 (by decide) (fun hc => ?_) (fun hc => ?_)
      · replace h := h.1 hc
        refine j_aload_n 0 dX12_look_30 rfl ?_
        refine j_bipush (v := 10) dX12_look_31 (by decide) ?_
        refine j_iload_n 1 dX12_look_33 rfl ?_
        refine j_iload_n 2 dX12_look_34 rfl ?_
        refine j_iconst (v := 0) dX12_look_35 (by decide) ?_
        refine j_invV (As := [.inl 10, .inl a1, .inl a2, .inl 0]) dX12_look_36 msRX12_203 mbX12_tells rfl rfl (Nat.le_of_ble_eq_true rfl) (Nat.le_of_ble_eq_true rfl) (by omega) (h3 0 (by decide)) rfl rfl (k_X12_tells (d := d + 0) h3 h) ?_
        rintro _ zM7 zN8 ⟨rfl, h⟩
        refine j_iconst (v := 1) dX12_look_39 (by decide) ?_
        exact j_zret dX12_look_40 rfl (Or.inr rfl) ⟨_, rfl, h⟩
      · replace h := h.2 hc
        refine j_iconst (v := 0) dX12_look_28 (by decide) ?_
        exact j_zret dX12_look_29 rfl (Or.inl rfl) ⟨_, rfl, h⟩
def w_X12_ill (a1 : Int32) (a2 : Int32) (M : am_I) (N : am_N) (post : Int32 → am_I → am_N → Prop) : Prop :=
  w_X12_has a1 M N (fun zr1 zM2 zN3 => ((zr1 = 0 → post 0 zM2 zN3) ∧ (¬ zr1 = 0 → vp_in (320 + a1) 1635 ∧ w_X12_one a2 zM2 zN3 (fun zr4 zM5 zN6 => (((zM2 (3, 0, 1) (320 + a1).toNatClampNeg) = zr4 → post 0 zM5 zN6) ∧ (¬ (zM2 (3, 0, 1) (320 + a1).toNatClampNeg) = zr4 → ((¬ (zM5 (3, 0, 0) 4) = 400 → w_X12_one a2 zM5 zN6 (fun zr7 zM8 zN9 => w_X12_tells 11 a1 zr7 0 zM8 zN9 (fun zM10 zN11 => post 1 zM10 zN11))) ∧ ((zM5 (3, 0, 0) 4) = 400 → post 0 zM5 zN6))))))))
set_option maxRecDepth 10000 in
theorem k_X12_ill {d : Nat} {dm : List am_C} (h3 : am_d3 dm) {a1 : Int32} {a2 : Int32} {M : am_I} {N : am_N} {post : Int32 → am_I → am_N → Prop} (h : w_X12_ill a1 a2 M N post) : jg (d + 5) mX12_ill dm 0 [(0, .inr (.inr (3, 0, 0))), (1, .inl a1), (2, .inl a2)] [] M N (am_pi post) := by
  refine j_aload_n 0 dX12_ill_0 rfl ?_
  refine j_iload_n 1 dX12_ill_1 rfl ?_
  refine j_invV (As := [.inl a1]) dX12_ill_2 msRX12_228 mbX12_has rfl rfl (Nat.le_of_ble_eq_true rfl) (Nat.le_of_ble_eq_true rfl) (by omega) (h3 0 (by decide)) rfl rfl (k_X12_has (d := d + 1) h3 h) ?_
  rintro _ zM2 zN3 ⟨zr1, rfl, h⟩
  refine j_if_eq (tgt := 35) dX12_ill_5 (by decide) (fun hc => ?_) (fun hc => ?_)
  · replace h := h.1 hc
    refine j_iconst (v := 0) dX12_ill_35 (by decide) ?_
    exact j_zret dX12_ill_36 rfl (Or.inl rfl) ⟨_, rfl, h⟩
  · replace h := h.2 hc
    refine j_aload_n 0 dX12_ill_8 rfl ?_
    refine j_getR (b := (3, 0, 1)) dX12_ill_9 fsRX12_7 (h3 0 (by decide)) rfl rfl ?_
    refine j_sipush (v := 320) dX12_ill_12 (by decide) ?_
    refine j_iload_n 1 dX12_ill_15 rfl ?_
    refine j_iadd dX12_ill_16 ?_
    obtain ⟨hq, h⟩ := h
    refine j_iald dX12_ill_17 (h3 1 (by decide)) rfl hq ?_
    refine j_iload_n 2 dX12_ill_18 rfl ?_
    refine j_invS (As := [.inl a2]) dX12_ill_19 msRX12_231 mbX12_one rfl rfl (Nat.le_of_ble_eq_true rfl) (Nat.le_of_ble_eq_true rfl) (by omega) (k_X12_one (d := d + 3)  h) ?_
    rintro _ zM5 zN6 ⟨zr4, rfl, h⟩
    refine j_icmp_eq (tgt := 35) dX12_ill_22 (by decide) (fun hc => ?_) (fun hc => ?_)
    · replace h := h.1 hc
      refine j_iconst (v := 0) dX12_ill_35 (by decide) ?_
      exact j_zret dX12_ill_36 rfl (Or.inl rfl) ⟨_, rfl, h⟩
    · replace h := h.2 hc
      refine j_aload_n 0 dX12_ill_25 rfl ?_
      refine j_getI dX12_ill_26 fsRX12_175 (h3 0 (by decide)) rfl ?_
      refine j_sipush (v := 400) dX12_ill_29 (by decide) ?_
      refine j_icmp_ne (tgt := 37) dX12_ill_32 (by decide) (fun hc => ?_) (fun hc => ?_)
      · replace h := h.1 hc
        refine j_aload_n 0 dX12_ill_37 rfl ?_
        refine j_bipush (v := 11) dX12_ill_38 (by decide) ?_
        refine j_iload_n 1 dX12_ill_40 rfl ?_
        refine j_iload_n 2 dX12_ill_41 rfl ?_
        refine j_invS (As := [.inl a2]) dX12_ill_42 msRX12_231 mbX12_one rfl rfl (Nat.le_of_ble_eq_true rfl) (Nat.le_of_ble_eq_true rfl) (by omega) (k_X12_one (d := d + 3)  h) ?_
        rintro _ zM8 zN9 ⟨zr7, rfl, h⟩
        refine j_iconst (v := 0) dX12_ill_45 (by decide) ?_
        refine j_invV (As := [.inl 11, .inl a1, .inl zr7, .inl 0]) dX12_ill_46 msRX12_203 mbX12_tells rfl rfl (Nat.le_of_ble_eq_true rfl) (Nat.le_of_ble_eq_true rfl) (by omega) (h3 0 (by decide)) rfl rfl (k_X12_tells (d := d + 0) h3 h) ?_
        rintro _ zM10 zN11 ⟨rfl, h⟩
        refine j_iconst (v := 1) dX12_ill_49 (by decide) ?_
        exact j_zret dX12_ill_50 rfl (Or.inr rfl) ⟨_, rfl, h⟩
      · replace h := h.2 hc
        refine j_iconst (v := 0) dX12_ill_35 (by decide) ?_
        exact j_zret dX12_ill_36 rfl (Or.inl rfl) ⟨_, rfl, h⟩
def w_X12_moves_p71 (post : am_I → am_N → Prop) (l1 : Int32) (l2 : Int32) (l4 : Int32) (s0 : Int32) (M : am_I) (N : am_N) : Prop :=
  vp_in (960 + l1) 1635 ∧ w_X12_isGoal (M (3, 0, 1) (960 + l1).toNatClampNeg) l4 s0 M N (fun zr1 zM2 zN3 => ((zr1 = 0 → w_X12_ways l1 l4 s0 zM2 zN3 (fun zM4 zN5 => vp_in (960 + l1) 1635 ∧ w_X12_nextOf l1 (zM4 (3, 0, 1) (960 + l1).toNatClampNeg) zM4 zN5 (fun zr6 zM7 zN8 => vp_in (960 + l1) 1635 ∧ vp_in (zM7 (3, 0, 1) (960 + l1).toNatClampNeg) 64 ∧ ((¬ (zN8 (3, 0, 24) (zM7 (3, 0, 1) (960 + l1).toNatClampNeg).toNatClampNeg) = 1000000000000000 → vp_in (968 + l1) 1635 ∧ ((¬ (zM7 (3, 0, 1) (968 + l1).toNatClampNeg) = 0 → w_X12_enters l1 zr6 zM7 zN8 (fun zM9 zN10 => post zM9 zN10)) ∧ ((zM7 (3, 0, 1) (968 + l1).toNatClampNeg) = 0 → w_X12_drops l1 zM7 zN8 (fun zM11 zN12 => vp_in (976 + l1) 1635 ∧ post (am_u zM11 (3, 0, 1) (976 + l1).toNatClampNeg 5) zN12)))) ∧ ((zN8 (3, 0, 24) (zM7 (3, 0, 1) (960 + l1).toNatClampNeg).toNatClampNeg) = 1000000000000000 → w_X12_drops l1 zM7 zN8 (fun zM13 zN14 => ((¬ l2 = 0 → post zM13 zN14) ∧ (l2 = 0 → vp_in (976 + l1) 1635 ∧ post (am_u zM13 (3, 0, 1) (976 + l1).toNatClampNeg 0) zN14)))))))) ∧ (¬ zr1 = 0 → ((l2 = 0 → w_X12_works l1 zM2 zN3 (fun zM15 zN16 => post zM15 zN16)) ∧ (¬ l2 = 0 → w_X12_gives l1 zM2 zN3 (fun zM17 zN18 => post zM17 zN18))))))
set_option maxRecDepth 10000 in
theorem k_X12_moves_p71 {d : Nat} {dm : List am_C} (h3 : am_d3 dm) {post : am_I → am_N → Prop} (l1 : Int32) (l2 : Int32) (l4 : Int32) (s0 : Int32) (M : am_I) (N : am_N) (h : w_X12_moves_p71 post l1 l2 l4 s0 M N) : jg (d + 5) mX12_moves dm 71 [(0, .inr (.inr (3, 0, 0))), (1, .inl l1), (2, .inl l2), (4, .inl l4)] [.inl s0] M N (am_pv post) := by
  refine j_istore dX12_moves_71 (by decide) rfl ?_
  refine j_aload_n 1 dX12_moves_73 rfl ?_
  refine j_getR (b := (3, 0, 1)) dX12_moves_74 fsRX12_7 (h3 0 (by decide)) rfl rfl ?_
  refine j_sipush (v := 960) dX12_moves_77 (by decide) ?_
  refine j_iload_n 2 dX12_moves_80 rfl ?_
  refine j_iadd dX12_moves_81 ?_
  obtain ⟨hq, h⟩ := h
  refine j_iald dX12_moves_82 (h3 1 (by decide)) rfl hq ?_
  refine j_iload 4 dX12_moves_83 rfl ?_
  refine j_iload 0 dX12_moves_85 rfl ?_
  refine j_invS (As := [.inl (M (3, 0, 1) (960 + l1).toNatClampNeg), .inl l4, .inl s0]) dX12_moves_87 msRX12_248 mbX12_isGoal rfl rfl (Nat.le_of_ble_eq_true rfl) (Nat.le_of_ble_eq_true rfl) (by omega) (k_X12_isGoal (d := d + 1)  h) ?_
  rintro _ zM2 zN3 ⟨zr1, rfl, h⟩
  refine j_if_eq (tgt := 111) dX12_moves_90 (by decide) (fun hc => ?_) (fun hc => ?_)
  · replace h := h.1 hc
    refine j_aload_n 1 dX12_moves_111 rfl ?_
    refine j_iload_n 2 dX12_moves_112 rfl ?_
    refine j_iload 4 dX12_moves_113 rfl ?_
    refine j_iload 0 dX12_moves_115 rfl ?_
    refine j_invV (As := [.inl l1, .inl l4, .inl s0]) dX12_moves_117 msRX12_266 mbX12_ways rfl rfl (Nat.le_of_ble_eq_true rfl) (Nat.le_of_ble_eq_true rfl) (by omega) (h3 0 (by decide)) rfl rfl (k_X12_ways (d := d + 0) h3 h) ?_
    rintro _ zM4 zN5 ⟨rfl, h⟩
    refine j_aload_n 1 dX12_moves_120 rfl ?_
    refine j_iload_n 2 dX12_moves_121 rfl ?_
    refine j_aload_n 1 dX12_moves_122 rfl ?_
    refine j_getR (b := (3, 0, 1)) dX12_moves_123 fsRX12_7 (h3 0 (by decide)) rfl rfl ?_
    refine j_sipush (v := 960) dX12_moves_126 (by decide) ?_
    refine j_iload_n 2 dX12_moves_129 rfl ?_
    refine j_iadd dX12_moves_130 ?_
    obtain ⟨hq, h⟩ := h
    refine j_iald dX12_moves_131 (h3 1 (by decide)) rfl hq ?_
    refine j_invV (As := [.inl l1, .inl (zM4 (3, 0, 1) (960 + l1).toNatClampNeg)]) dX12_moves_132 msRX12_270 mbX12_nextOf rfl rfl (Nat.le_of_ble_eq_true rfl) (Nat.le_of_ble_eq_true rfl) (by omega) (h3 0 (by decide)) rfl rfl (k_X12_nextOf (d := d + 1) h3 h) ?_
    rintro _ zM7 zN8 ⟨zr6, rfl, h⟩
    refine j_istore dX12_moves_135 (by decide) rfl ?_
    refine j_aload_n 2 dX12_moves_137 rfl ?_
    refine j_getR (b := (3, 0, 24)) dX12_moves_138 fsRX12_85 (h3 0 (by decide)) rfl rfl ?_
    refine j_aload_n 2 dX12_moves_141 rfl ?_
    refine j_getR (b := (3, 0, 1)) dX12_moves_142 fsRX12_7 (h3 0 (by decide)) rfl rfl ?_
    refine j_sipush (v := 960) dX12_moves_145 (by decide) ?_
    refine j_iload_n 3 dX12_moves_148 rfl ?_
    refine j_iadd dX12_moves_149 ?_
    obtain ⟨hq, h⟩ := h
    refine j_iald dX12_moves_150 (h3 1 (by decide)) rfl hq ?_
    obtain ⟨hq, h⟩ := h
    refine j_lald dX12_moves_151 (h3 24 (by decide)) rfl hq ?_
    refine j_ldc2 (v := 1000000000000000) dX12_moves_152 cw_1659 ?_
    refine j_lcmp_ne (tgt := 182) dX12_moves_155 dX12_moves_156 (by decide) (fun hc => ?_) (fun hc => ?_)
    · replace h := h.1 hc
      refine j_aload_n 2 dX12_moves_182 rfl ?_
      refine j_getR (b := (3, 0, 1)) dX12_moves_183 fsRX12_7 (h3 0 (by decide)) rfl rfl ?_
      refine j_sipush (v := 968) dX12_moves_186 (by decide) ?_
      refine j_iload_n 3 dX12_moves_189 rfl ?_
      refine j_iadd dX12_moves_190 ?_
      obtain ⟨hq, h⟩ := h
      refine j_iald dX12_moves_191 (h3 1 (by decide)) rfl hq ?_
      refine j_if_ne (tgt := 214) dX12_moves_192 (by decide) (fun hc => ?_) (fun hc => ?_)
      · replace h := h.1 hc
        refine j_aload_n 2 dX12_moves_214 rfl ?_
        refine j_iload_n 3 dX12_moves_215 rfl ?_
        refine j_iload 0 dX12_moves_216 rfl ?_
        refine j_invV (As := [.inl l1, .inl zr6]) dX12_moves_218 msRX12_292 mbX12_enters rfl rfl (Nat.le_of_ble_eq_true rfl) (Nat.le_of_ble_eq_true rfl) (by omega) (h3 0 (by decide)) rfl rfl (k_X12_enters (d := d + 1) h3 h) ?_
        rintro _ zM9 zN10 ⟨rfl, h⟩
        exact j_vret dX12_moves_221 rfl ⟨rfl, h⟩
      · replace h := h.2 hc
        refine j_aload_n 2 dX12_moves_195 rfl ?_
        refine j_iload_n 3 dX12_moves_196 rfl ?_
        refine j_invV (As := [.inl l1]) dX12_moves_197 msRX12_289 mbX12_drops rfl rfl (Nat.le_of_ble_eq_true rfl) (Nat.le_of_ble_eq_true rfl) (by omega) (h3 0 (by decide)) rfl rfl (k_X12_drops (d := d + 3) h3 h) ?_
        rintro _ zM11 zN12 ⟨rfl, h⟩
        refine j_aload_n 2 dX12_moves_200 rfl ?_
        refine j_getR (b := (3, 0, 1)) dX12_moves_201 fsRX12_7 (h3 0 (by decide)) rfl rfl ?_
        refine j_sipush (v := 976) dX12_moves_204 (by decide) ?_
        refine j_iload_n 3 dX12_moves_207 rfl ?_
        refine j_iadd dX12_moves_208 ?_
        refine j_iconst (v := 5) dX12_moves_209 (by decide) ?_
        obtain ⟨hq, h⟩ := h
        refine j_iast dX12_moves_210 (h3 1 (by decide)) rfl hq ?_
        refine j_goto (tgt := 221) dX12_moves_211 (by decide) ?_
        exact j_vret dX12_moves_221 rfl ⟨rfl, h⟩
    · replace h := h.2 hc
      refine j_aload_n 2 dX12_moves_159 rfl ?_
      refine j_iload_n 3 dX12_moves_160 rfl ?_
      refine j_invV (As := [.inl l1]) dX12_moves_161 msRX12_289 mbX12_drops rfl rfl (Nat.le_of_ble_eq_true rfl) (Nat.le_of_ble_eq_true rfl) (by omega) (h3 0 (by decide)) rfl rfl (k_X12_drops (d := d + 3) h3 h) ?_
      rintro _ zM13 zN14 ⟨rfl, h⟩
      refine j_iload_n 4 dX12_moves_164 rfl ?_
      refine j_if_ne (tgt := 221) dX12_moves_165 (by decide) (fun hc => ?_) (fun hc => ?_)
      · replace h := h.1 hc
        exact j_vret dX12_moves_221 rfl ⟨rfl, h⟩
      · replace h := h.2 hc
        refine j_aload_n 2 dX12_moves_168 rfl ?_
        refine j_getR (b := (3, 0, 1)) dX12_moves_169 fsRX12_7 (h3 0 (by decide)) rfl rfl ?_
        refine j_sipush (v := 976) dX12_moves_172 (by decide) ?_
        refine j_iload_n 3 dX12_moves_175 rfl ?_
        refine j_iadd dX12_moves_176 ?_
        refine j_iconst (v := 0) dX12_moves_177 (by decide) ?_
        obtain ⟨hq, h⟩ := h
        refine j_iast dX12_moves_178 (h3 1 (by decide)) rfl hq ?_
        refine j_goto (tgt := 221) dX12_moves_179 (by decide) ?_
        exact j_vret dX12_moves_221 rfl ⟨rfl, h⟩
  · replace h := h.2 hc
    refine j_iload_n 3 dX12_moves_93 rfl ?_
    refine j_if_eq (tgt := 105) dX12_moves_94 (by decide) (fun hc => ?_) (fun hc => ?_)
    · replace h := h.1 hc
      refine j_aload_n 1 dX12_moves_105 rfl ?_
      refine j_iload_n 2 dX12_moves_106 rfl ?_
      refine j_invV (As := [.inl l1]) dX12_moves_107 msRX12_287 mbX12_works rfl rfl (Nat.le_of_ble_eq_true rfl) (Nat.le_of_ble_eq_true rfl) (by omega) (h3 0 (by decide)) rfl rfl (k_X12_works (d := d + 2) h3 h) ?_
      rintro _ zM15 zN16 ⟨rfl, h⟩
      exact j_vret dX12_moves_110 rfl ⟨rfl, h⟩
    · replace h := h.2 hc
      refine j_aload_n 1 dX12_moves_97 rfl ?_
      refine j_iload_n 2 dX12_moves_98 rfl ?_
      refine j_invV (As := [.inl l1]) dX12_moves_99 msRX12_284 mbX12_gives rfl rfl (Nat.le_of_ble_eq_true rfl) (Nat.le_of_ble_eq_true rfl) (by omega) (h3 0 (by decide)) rfl rfl (k_X12_gives (d := d + 2) h3 h) ?_
      rintro _ zM17 zN18 ⟨rfl, h⟩
      refine j_goto (tgt := 110) dX12_moves_102 (by decide) ?_
      exact j_vret dX12_moves_110 rfl ⟨rfl, h⟩
def w_X12_moves_p50 (post : am_I → am_N → Prop) (l1 : Int32) (l2 : Int32) (l3 : Int32) (s0 : Int32) (M : am_I) (N : am_N) : Prop :=
  ((¬ l2 = 0 → w_X12_moves_p71 post l1 l2 s0 0 M N) ∧ (l2 = 0 → vp_in l3 60 ∧ ((¬ (M (3, 0, 16) l3.toNatClampNeg) = 3 → w_X12_moves_p71 post l1 l2 s0 0 M N) ∧ ((M (3, 0, 16) l3.toNatClampNeg) = 3 → w_X12_moves_p71 post l1 l2 s0 1 M N))))
set_option maxRecDepth 10000 in
theorem k_X12_moves_p50 {d : Nat} {dm : List am_C} (h3 : am_d3 dm) {post : am_I → am_N → Prop} (l1 : Int32) (l2 : Int32) (l3 : Int32) (s0 : Int32) (M : am_I) (N : am_N) (h : w_X12_moves_p50 post l1 l2 l3 s0 M N) : jg (d + 5) mX12_moves dm 50 [(0, .inr (.inr (3, 0, 0))), (1, .inl l1), (2, .inl l2), (3, .inl l3)] [.inl s0] M N (am_pv post) := by
  refine j_istore dX12_moves_50 (by decide) rfl ?_
  refine j_iload_n 3 dX12_moves_52 rfl ?_
  refine j_if_ne (tgt := 70) dX12_moves_53 (by decide) (fun hc => ?_) (fun hc => ?_)
  · replace h := h.1 hc
    refine j_iconst (v := 0) dX12_moves_70 (by decide) ?_
    refine j_sub [1, 2, 3, 0] rfl ?_
    exact k_X12_moves_p71 h3 _ _ _ _ _ _ h
  · replace h := h.2 hc
    refine j_aload_n 1 dX12_moves_56 rfl ?_
    refine j_getR (b := (3, 0, 16)) dX12_moves_57 fsRX12_55 (h3 0 (by decide)) rfl rfl ?_
    refine j_iload_n 4 dX12_moves_60 rfl ?_
    obtain ⟨hq, h⟩ := h
    refine j_iald dX12_moves_61 (h3 16 (by decide)) rfl hq ?_
    refine j_iconst (v := 3) dX12_moves_62 (by decide) ?_
    refine j_icmp_ne (tgt := 70) dX12_moves_63 (by decide) (fun hc => ?_) (fun hc => ?_)
    · replace h := h.1 hc
      refine j_iconst (v := 0) dX12_moves_70 (by decide) ?_
      refine j_sub [1, 2, 3, 0] rfl ?_
      exact k_X12_moves_p71 h3 _ _ _ _ _ _ h
    · replace h := h.2 hc
      refine j_iconst (v := 1) dX12_moves_66 (by decide) ?_
      refine j_goto (tgt := 71) dX12_moves_67 (by decide) ?_
      refine j_sub [1, 2, 3, 0] rfl ?_
      exact k_X12_moves_p71 h3 _ _ _ _ _ _ h
def w_X12_moves_p19 (post : am_I → am_N → Prop) (l1 : Int32) (s0 : Int32) (M : am_I) (N : am_N) : Prop :=
  vp_in (984 + l1) 1635 ∧ ∀ zv1 : Int32, zv1 = M (3, 0, 1) (984 + l1).toNatClampNeg → ((s0 = 0 → vp_in zv1 60 ∧ w_X12_moves_p50 post l1 s0 zv1 (M (3, 0, 17) zv1.toNatClampNeg) M N) ∧ (¬ s0 = 0 → vp_in l1 8 ∧ w_X12_moves_p50 post l1 s0 zv1 (M (3, 0, 14) l1.toNatClampNeg) M N))
set_option maxRecDepth 10000 in
theorem k_X12_moves_p19 {d : Nat} {dm : List am_C} (h3 : am_d3 dm) {post : am_I → am_N → Prop} (l1 : Int32) (s0 : Int32) (M : am_I) (N : am_N) (h : w_X12_moves_p19 post l1 s0 M N) : jg (d + 5) mX12_moves dm 19 [(0, .inr (.inr (3, 0, 0))), (1, .inl l1)] [.inl s0] M N (am_pv post) := by
  refine j_istore_n dX12_moves_19 (by decide) rfl ?_
  refine j_aload_n 1 dX12_moves_20 rfl ?_
  refine j_getR (b := (3, 0, 1)) dX12_moves_21 fsRX12_7 (h3 0 (by decide)) rfl rfl ?_
  refine j_sipush (v := 984) dX12_moves_24 (by decide) ?_
  refine j_iload_n 2 dX12_moves_27 rfl ?_
  refine j_iadd dX12_moves_28 ?_
  obtain ⟨hq, h⟩ := h
  refine j_iald dX12_moves_29 (h3 1 (by decide)) rfl hq ?_
  refine j_topi (fun zv1 hzv1 => ?_)
  replace h := h zv1 hzv1
  refine j_istore_n dX12_moves_30 (by decide) rfl ?_
  refine j_iload_n 1 dX12_moves_31 rfl ?_
  refine j_if_eq (tgt := 44) dX12_moves_32 (by decide) (fun hc => ?_) (fun hc => ?_)
  · replace h := h.1 hc
    refine j_aload_n 2 dX12_moves_44 rfl ?_
    refine j_getR (b := (3, 0, 17)) dX12_moves_45 fsRX12_58 (h3 0 (by decide)) rfl rfl ?_
    refine j_iload_n 0 dX12_moves_48 rfl ?_
    obtain ⟨hq, h⟩ := h
    refine j_iald dX12_moves_49 (h3 17 (by decide)) rfl hq ?_
    refine j_sub [2, 3, 1, 0] rfl ?_
    exact k_X12_moves_p50 h3 _ _ _ _ _ _ h
  · replace h := h.2 hc
    refine j_aload_n 2 dX12_moves_35 rfl ?_
    refine j_getR (b := (3, 0, 14)) dX12_moves_36 fsRX12_49 (h3 0 (by decide)) rfl rfl ?_
    refine j_iload_n 3 dX12_moves_39 rfl ?_
    obtain ⟨hq, h⟩ := h
    refine j_iald dX12_moves_40 (h3 14 (by decide)) rfl hq ?_
    refine j_goto (tgt := 50) dX12_moves_41 (by decide) ?_
    refine j_sub [2, 3, 1, 0] rfl ?_
    exact k_X12_moves_p50 h3 _ _ _ _ _ _ h
def w_X12_moves (a1 : Int32) (M : am_I) (N : am_N) (post : am_I → am_N → Prop) : Prop :=
  vp_in (976 + a1) 1635 ∧ ((¬ (M (3, 0, 1) (976 + a1).toNatClampNeg) = 2 → w_X12_moves_p19 post a1 0 M N) ∧ ((M (3, 0, 1) (976 + a1).toNatClampNeg) = 2 → w_X12_moves_p19 post a1 1 M N))
set_option maxRecDepth 10000 in
theorem k_X12_moves {d : Nat} {dm : List am_C} (h3 : am_d3 dm) {a1 : Int32} {M : am_I} {N : am_N} {post : am_I → am_N → Prop} (h : w_X12_moves a1 M N post) : jg (d + 5) mX12_moves dm 0 [(0, .inr (.inr (3, 0, 0))), (1, .inl a1)] [] M N (am_pv post) := by
  refine j_aload_n 0 dX12_moves_0 rfl ?_
  refine j_getR (b := (3, 0, 1)) dX12_moves_1 fsRX12_7 (h3 0 (by decide)) rfl rfl ?_
  refine j_sipush (v := 976) dX12_moves_4 (by decide) ?_
  refine j_iload_n 1 dX12_moves_7 rfl ?_
  refine j_iadd dX12_moves_8 ?_
  obtain ⟨hq, h⟩ := h
  refine j_iald dX12_moves_9 (h3 1 (by decide)) rfl hq ?_
  refine j_iconst (v := 2) dX12_moves_10 (by decide) ?_
  refine j_icmp_ne (tgt := 18) dX12_moves_11 (by decide) (fun hc => ?_) (fun hc => ?_)
  · replace h := h.1 hc
    refine j_iconst (v := 0) dX12_moves_18 (by decide) ?_
    refine j_sub [0, 1] rfl ?_
    exact k_X12_moves_p19 h3 _ _ _ _ h
  · replace h := h.2 hc
    refine j_iconst (v := 1) dX12_moves_14 (by decide) ?_
    refine j_goto (tgt := 19) dX12_moves_15 (by decide) ?_
    refine j_sub [0, 1] rfl ?_
    exact k_X12_moves_p19 h3 _ _ _ _ h
def w_X12_acts_p93 (post : am_I → am_N → Prop) (l1 : Int32) (M : am_I) (N : am_N) : Prop :=
  w_X12_moves l1 M N (fun zM1 zN2 => post zM1 zN2)
set_option maxRecDepth 10000 in
theorem k_X12_acts_p93 {d : Nat} {dm : List am_C} (h3 : am_d3 dm) {post : am_I → am_N → Prop} (l1 : Int32) (M : am_I) (N : am_N) (h : w_X12_acts_p93 post l1 M N) : jg (d + 6) mX12_acts dm 93 [(0, .inr (.inr (3, 0, 0))), (1, .inl l1)] [] M N (am_pv post) := by
  refine j_aload_n 0 dX12_acts_93 rfl ?_
  refine j_iload_n 1 dX12_acts_94 rfl ?_
  refine j_invV (As := [.inl l1]) dX12_acts_95 msRX12_295 mbX12_moves rfl rfl (Nat.le_of_ble_eq_true rfl) (Nat.le_of_ble_eq_true rfl) (by omega) (h3 0 (by decide)) rfl rfl (k_X12_moves (d := d + 0) h3 h) ?_
  rintro _ zM1 zN2 ⟨rfl, h⟩
  exact j_vret dX12_acts_98 rfl ⟨rfl, h⟩
def w_X12_acts_p65 (post : am_I → am_N → Prop) (l1 : Int32) (M : am_I) (N : am_N) : Prop :=
  vp_in (976 + l1) 1635 ∧ (((M (3, 0, 1) (976 + l1).toNatClampNeg) = 1 → w_X12_acts_p93 post l1 M N) ∧ (¬ (M (3, 0, 1) (976 + l1).toNatClampNeg) = 1 → vp_in (976 + l1) 1635 ∧ ((¬ (M (3, 0, 1) (976 + l1).toNatClampNeg) = 2 → post M N) ∧ ((M (3, 0, 1) (976 + l1).toNatClampNeg) = 2 → w_X12_acts_p93 post l1 M N))))
set_option maxRecDepth 10000 in
theorem k_X12_acts_p65 {d : Nat} {dm : List am_C} (h3 : am_d3 dm) {post : am_I → am_N → Prop} (l1 : Int32) (M : am_I) (N : am_N) (h : w_X12_acts_p65 post l1 M N) : jg (d + 6) mX12_acts dm 65 [(0, .inr (.inr (3, 0, 0))), (1, .inl l1)] [] M N (am_pv post) := by
  refine j_aload_n 0 dX12_acts_65 rfl ?_
  refine j_getR (b := (3, 0, 1)) dX12_acts_66 fsRX12_7 (h3 0 (by decide)) rfl rfl ?_
  refine j_sipush (v := 976) dX12_acts_69 (by decide) ?_
  refine j_iload_n 1 dX12_acts_72 rfl ?_
  refine j_iadd dX12_acts_73 ?_
  obtain ⟨hq, h⟩ := h
  refine j_iald dX12_acts_74 (h3 1 (by decide)) rfl hq ?_
  refine j_iconst (v := 1) dX12_acts_75 (by decide) ?_
  refine j_icmp_eq (tgt := 93) dX12_acts_76 (by decide) (fun hc => ?_) (fun hc => ?_)
  · replace h := h.1 hc
    refine j_sub [0, 1] rfl ?_
    exact k_X12_acts_p93 h3 _ _ _ h
  · replace h := h.2 hc
    refine j_aload_n 0 dX12_acts_79 rfl ?_
    refine j_getR (b := (3, 0, 1)) dX12_acts_80 fsRX12_7 (h3 0 (by decide)) rfl rfl ?_
    refine j_sipush (v := 976) dX12_acts_83 (by decide) ?_
    refine j_iload_n 1 dX12_acts_86 rfl ?_
    refine j_iadd dX12_acts_87 ?_
    obtain ⟨hq, h⟩ := h
    refine j_iald dX12_acts_88 (h3 1 (by decide)) rfl hq ?_
    refine j_iconst (v := 2) dX12_acts_89 (by decide) ?_
    refine j_icmp_ne (tgt := 98) dX12_acts_90 (by decide) (fun hc => ?_) (fun hc => ?_)
    · replace h := h.1 hc
      exact j_vret dX12_acts_98 rfl ⟨rfl, h⟩
    · replace h := h.2 hc
      refine j_sub [0, 1] rfl ?_
      exact k_X12_acts_p93 h3 _ _ _ h
def w_X12_acts (a1 : Int32) (M : am_I) (N : am_N) (post : am_I → am_N → Prop) : Prop :=
  vp_in (976 + a1) 1635 ∧ ((¬ (M (3, 0, 1) (976 + a1).toNatClampNeg) = 3 → vp_in (976 + a1) 1635 ∧ ((¬ (M (3, 0, 1) (976 + a1).toNatClampNeg) = 0 → w_X12_acts_p65 post a1 M N) ∧ ((M (3, 0, 1) (976 + a1).toNatClampNeg) = 0 → vp_in (968 + a1) 1635 ∧ vp_in a1 8 ∧ (((M (3, 0, 15) a1.toNatClampNeg) ≤ (4 * (M (3, 0, 1) (968 + a1).toNatClampNeg)) → w_X12_acts_p65 post a1 M N) ∧ (¬ (M (3, 0, 15) a1.toNatClampNeg) ≤ (4 * (M (3, 0, 1) (968 + a1).toNatClampNeg)) → vp_in (976 + a1) 1635 ∧ w_X12_acts_p65 post a1 (am_u M (3, 0, 1) (976 + a1).toNatClampNeg 2) N))))) ∧ ((M (3, 0, 1) (976 + a1).toNatClampNeg) = 3 → w_X12_gives a1 M N (fun zM1 zN2 => post zM1 zN2)))
set_option maxRecDepth 10000 in
theorem k_X12_acts {d : Nat} {dm : List am_C} (h3 : am_d3 dm) {a1 : Int32} {M : am_I} {N : am_N} {post : am_I → am_N → Prop} (h : w_X12_acts a1 M N post) : jg (d + 6) mX12_acts dm 0 [(0, .inr (.inr (3, 0, 0))), (1, .inl a1)] [] M N (am_pv post) := by
  refine j_aload_n 0 dX12_acts_0 rfl ?_
  refine j_getR (b := (3, 0, 1)) dX12_acts_1 fsRX12_7 (h3 0 (by decide)) rfl rfl ?_
  refine j_sipush (v := 976) dX12_acts_4 (by decide) ?_
  refine j_iload_n 1 dX12_acts_7 rfl ?_
  refine j_iadd dX12_acts_8 ?_
  obtain ⟨hq, h⟩ := h
  refine j_iald dX12_acts_9 (h3 1 (by decide)) rfl hq ?_
  refine j_iconst (v := 3) dX12_acts_10 (by decide) ?_
  refine j_icmp_ne (tgt := 20) dX12_acts_11 (by decide) (fun hc => ?_) (fun hc => ?_)
  · replace h := h.1 hc
    refine j_aload_n 0 dX12_acts_20 rfl ?_
    refine j_getR (b := (3, 0, 1)) dX12_acts_21 fsRX12_7 (h3 0 (by decide)) rfl rfl ?_
    refine j_sipush (v := 976) dX12_acts_24 (by decide) ?_
    refine j_iload_n 1 dX12_acts_27 rfl ?_
    refine j_iadd dX12_acts_28 ?_
    obtain ⟨hq, h⟩ := h
    refine j_iald dX12_acts_29 (h3 1 (by decide)) rfl hq ?_
    refine j_if_ne (tgt := 65) dX12_acts_30 (by decide) (fun hc => ?_) (fun hc => ?_)
    · replace h := h.1 hc
      refine j_sub [0, 1] rfl ?_
      exact k_X12_acts_p65 h3 _ _ _ h
    · replace h := h.2 hc
      refine j_iconst (v := 4) dX12_acts_33 (by decide) ?_
      refine j_aload_n 0 dX12_acts_34 rfl ?_
      refine j_getR (b := (3, 0, 1)) dX12_acts_35 fsRX12_7 (h3 0 (by decide)) rfl rfl ?_
      refine j_sipush (v := 968) dX12_acts_38 (by decide) ?_
      refine j_iload_n 1 dX12_acts_41 rfl ?_
      refine j_iadd dX12_acts_42 ?_
      obtain ⟨hq, h⟩ := h
      refine j_iald dX12_acts_43 (h3 1 (by decide)) rfl hq ?_
      refine j_imul dX12_acts_44 ?_
      refine j_aload_n 0 dX12_acts_45 rfl ?_
      refine j_getR (b := (3, 0, 15)) dX12_acts_46 fsRX12_52 (h3 0 (by decide)) rfl rfl ?_
      refine j_iload_n 1 dX12_acts_49 rfl ?_
      obtain ⟨hq, h⟩ := h
      refine j_iald dX12_acts_50 (h3 15 (by decide)) rfl hq ?_
      refine j_icmp_ge (tgt := 65) dX12_acts_51 (by decide) (fun hc => ?_) (fun hc => ?_)
      · replace h := h.1 hc
        refine j_sub [0, 1] rfl ?_
        exact k_X12_acts_p65 h3 _ _ _ h
      · replace h := h.2 hc
        refine j_aload_n 0 dX12_acts_54 rfl ?_
        refine j_getR (b := (3, 0, 1)) dX12_acts_55 fsRX12_7 (h3 0 (by decide)) rfl rfl ?_
        refine j_sipush (v := 976) dX12_acts_58 (by decide) ?_
        refine j_iload_n 1 dX12_acts_61 rfl ?_
        refine j_iadd dX12_acts_62 ?_
        refine j_iconst (v := 2) dX12_acts_63 (by decide) ?_
        obtain ⟨hq, h⟩ := h
        refine j_iast dX12_acts_64 (h3 1 (by decide)) rfl hq ?_
        refine j_sub [0, 1] rfl ?_
        exact k_X12_acts_p65 h3 _ _ _ h
  · replace h := h.2 hc
    refine j_aload_n 0 dX12_acts_14 rfl ?_
    refine j_iload_n 1 dX12_acts_15 rfl ?_
    refine j_invV (As := [.inl a1]) dX12_acts_16 msRX12_284 mbX12_gives rfl rfl (Nat.le_of_ble_eq_true rfl) (Nat.le_of_ble_eq_true rfl) (by omega) (h3 0 (by decide)) rfl rfl (k_X12_gives (d := d + 3) h3 h) ?_
    rintro _ zM1 zN2 ⟨rfl, h⟩
    exact j_vret dX12_acts_19 rfl ⟨rfl, h⟩
def w_X12_hour_p30_b (post : am_I → am_N → Prop) (zk30 : Int32 → am_I → am_N → Prop) (l1 : Int32) (M : am_I) (N : am_N) : Prop :=
  (((M (3, 0, 1) 1631) ≤ l1 → ((¬ (am_rem (M (3, 0, 1) 1624) 24) = 0 → post M N) ∧ ((am_rem (M (3, 0, 1) 1624) 24) = 0 → w_X12_ends M N (fun zM1 zN2 => post zM1 zN2)))) ∧ (¬ (M (3, 0, 1) 1631) ≤ l1 → w_X12_isBut 1 l1 M N (fun zr3 zM4 zN5 => ((¬ zr3 = 0 → zk30 (l1 + 1) zM4 zN5) ∧ (zr3 = 0 → w_X12_acts l1 zM4 zN5 (fun zM6 zN7 => zk30 (l1 + 1) zM6 zN7))))))
noncomputable def w_X12_hour_p30 (post : am_I → am_N → Prop) (n : Nat) : Int32 → am_I → am_N → Prop :=
  Nat.rec (motive := fun _ => Int32 → am_I → am_N → Prop) (fun _ _ _ => False) (fun _ zk => w_X12_hour_p30_b post zk) n
theorem w_X12_hour_p30_s (post : am_I → am_N → Prop) (n : Nat) (l1 : Int32) (M : am_I) (N : am_N) : w_X12_hour_p30 post (n + 1) l1 M N = w_X12_hour_p30_b post (w_X12_hour_p30 post n) l1 M N := rfl
set_option maxRecDepth 10000 in
theorem k_X12_hour_p30 {d : Nat} {dm : List am_C} (h3 : am_d3 dm) {post : am_I → am_N → Prop} : ∀ (n : Nat) (l1 : Int32) (M : am_I) (N : am_N), w_X12_hour_p30 post n l1 M N → jg (d + 7) mX12_hour dm 30 [(0, .inr (.inr (3, 0, 0))), (1, .inl l1)] [] M N (am_pv post) := by
  intro n
  induction n with
  | zero => intro l1 M N h; exact h.elim
  | succ n zih =>
    intro l1 M N h
    replace h : w_X12_hour_p30_b post (w_X12_hour_p30 post n) l1 M N := h
    refine j_iload_n 1 dX12_hour_30 rfl ?_
    refine j_aload_n 0 dX12_hour_31 rfl ?_
    refine j_getR (b := (3, 0, 1)) dX12_hour_32 fsRX12_7 (h3 0 (by decide)) rfl rfl ?_
    refine j_sipush (v := 1631) dX12_hour_35 (by decide) ?_
    refine j_iald dX12_hour_38 (h3 1 (by decide)) rfl (by unfold vp_in; decide) ?_
    refine j_icmp_ge (tgt := 62) dX12_hour_39 (by decide) (fun hc => ?_) (fun hc => ?_)
    · replace h := h.1 hc
      refine j_aload_n 0 dX12_hour_62 rfl ?_
      refine j_getR (b := (3, 0, 1)) dX12_hour_63 fsRX12_7 (h3 0 (by decide)) rfl rfl ?_
      refine j_sipush (v := 1624) dX12_hour_66 (by decide) ?_
      refine j_iald dX12_hour_69 (h3 1 (by decide)) rfl (by unfold vp_in; decide) ?_
      refine j_bipush (v := 24) dX12_hour_70 (by decide) ?_
      refine j_irem dX12_hour_72 (by decide) ?_
      refine j_if_ne (tgt := 80) dX12_hour_73 (by decide) (fun hc => ?_) (fun hc => ?_)
      · replace h := h.1 hc
        exact j_vret dX12_hour_80 rfl ⟨rfl, h⟩
      · replace h := h.2 hc
        refine j_aload_n 0 dX12_hour_76 rfl ?_
        refine j_invV (As := []) dX12_hour_77 msRX12_316 mbX12_ends rfl rfl (Nat.le_of_ble_eq_true rfl) (Nat.le_of_ble_eq_true rfl) (by omega) (h3 0 (by decide)) rfl rfl (k_X12_ends (d := d + 4) h3 h) ?_
        rintro _ zM1 zN2 ⟨rfl, h⟩
        exact j_vret dX12_hour_80 rfl ⟨rfl, h⟩
    · replace h := h.2 hc
      refine j_aload_n 0 dX12_hour_42 rfl ?_
      refine j_iconst (v := 1) dX12_hour_43 (by decide) ?_
      refine j_iload_n 1 dX12_hour_44 rfl ?_
      refine j_invV (As := [.inl 1, .inl l1]) dX12_hour_45 msRX12_188 mbX12_isBut rfl rfl (Nat.le_of_ble_eq_true rfl) (Nat.le_of_ble_eq_true rfl) (by omega) (h3 0 (by decide)) rfl rfl (k_X12_isBut (d := d + 5) h3 h) ?_
      rintro _ zM4 zN5 ⟨zr3, rfl, h⟩
      refine j_if_ne (tgt := 56) dX12_hour_48 (by decide) (fun hc => ?_) (fun hc => ?_)
      · replace h := h.1 hc
        refine j_iinc 1 dX12_hour_56 rfl rfl (by decide) rfl ?_
        refine j_goto (tgt := 30) dX12_hour_59 (by decide) ?_
        refine j_sub [1, 0] rfl ?_
        exact zih _ _ _ h
      · replace h := h.2 hc
        refine j_aload_n 0 dX12_hour_51 rfl ?_
        refine j_iload_n 1 dX12_hour_52 rfl ?_
        refine j_invV (As := [.inl l1]) dX12_hour_53 msRX12_313 mbX12_acts rfl rfl (Nat.le_of_ble_eq_true rfl) (Nat.le_of_ble_eq_true rfl) (by omega) (h3 0 (by decide)) rfl rfl (k_X12_acts (d := d + 0) h3 h) ?_
        rintro _ zM6 zN7 ⟨rfl, h⟩
        refine j_iinc 1 dX12_hour_56 rfl rfl (by decide) rfl ?_
        refine j_goto (tgt := 30) dX12_hour_59 (by decide) ?_
        refine j_sub [1, 0] rfl ?_
        exact zih _ _ _ h
def w_X12_hour (M : am_I) (N : am_N) (post : am_I → am_N → Prop) : Prop :=
  w_X12_rains (am_u M (3, 0, 1) 1624 ((M (3, 0, 1) 1624) + 1)) N (fun zM1 zN2 => w_X12_flows zM1 zN2 (fun zM3 zN4 => w_X12_dries zM3 zN4 (fun zM5 zN6 => w_X12_offers zM5 zN6 (fun zM7 zN8 => ∃ n, w_X12_hour_p30 post n 0 zM7 zN8))))
set_option maxRecDepth 10000 in
theorem k_X12_hour {d : Nat} {dm : List am_C} (h3 : am_d3 dm) {M : am_I} {N : am_N} {post : am_I → am_N → Prop} (h : w_X12_hour M N post) : jg (d + 7) mX12_hour dm 0 [(0, .inr (.inr (3, 0, 0)))] [] M N (am_pv post) := by
  refine j_aload_n 0 dX12_hour_0 rfl ?_
  refine j_getR (b := (3, 0, 1)) dX12_hour_1 fsRX12_7 (h3 0 (by decide)) rfl rfl ?_
  refine j_sipush (v := 1624) dX12_hour_4 (by decide) ?_
  refine j_dup2 dX12_hour_7 rfl rfl ?_
  refine j_iald dX12_hour_8 (h3 1 (by decide)) rfl (by unfold vp_in; decide) ?_
  refine j_iconst (v := 1) dX12_hour_9 (by decide) ?_
  refine j_iadd dX12_hour_10 ?_
  refine j_iast dX12_hour_11 (h3 1 (by decide)) rfl (by unfold vp_in; decide) ?_
  refine j_aload_n 0 dX12_hour_12 rfl ?_
  refine j_invV (As := []) dX12_hour_13 msRX12_302 mbX12_rains rfl rfl (Nat.le_of_ble_eq_true rfl) (Nat.le_of_ble_eq_true rfl) (by omega) (h3 0 (by decide)) rfl rfl (k_X12_rains (d := d + 4) h3 h) ?_
  rintro _ zM1 zN2 ⟨rfl, h⟩
  refine j_aload_n 0 dX12_hour_16 rfl ?_
  refine j_invV (As := []) dX12_hour_17 msRX12_304 mbX12_flows rfl rfl (Nat.le_of_ble_eq_true rfl) (Nat.le_of_ble_eq_true rfl) (by omega) (h3 0 (by decide)) rfl rfl (k_X12_flows (d := d + 4) h3 h) ?_
  rintro _ zM3 zN4 ⟨rfl, h⟩
  refine j_aload_n 0 dX12_hour_20 rfl ?_
  refine j_invV (As := []) dX12_hour_21 msRX12_307 mbX12_dries rfl rfl (Nat.le_of_ble_eq_true rfl) (Nat.le_of_ble_eq_true rfl) (by omega) (h3 0 (by decide)) rfl rfl (k_X12_dries (d := d + 5) h3 h) ?_
  rintro _ zM5 zN6 ⟨rfl, h⟩
  refine j_aload_n 0 dX12_hour_24 rfl ?_
  refine j_invV (As := []) dX12_hour_25 msRX12_310 mbX12_offers rfl rfl (Nat.le_of_ble_eq_true rfl) (Nat.le_of_ble_eq_true rfl) (by omega) (h3 0 (by decide)) rfl rfl (k_X12_offers (d := d + 1) h3 h) ?_
  rintro _ zM7 zN8 ⟨rfl, h⟩
  refine j_iconst (v := 0) dX12_hour_28 (by decide) ?_
  refine j_istore_n dX12_hour_29 (by decide) rfl ?_
  refine j_sub [1, 0] rfl ?_
  obtain ⟨n, h⟩ := h
  exact k_X12_hour_p30 h3 n _ _ _ h
def w_X12_pass_p31_b (post : Int32 → am_I → am_N → Prop) (zk31 : Int32 → Int32 → am_I → am_N → Prop) (l1 : Int32) (l2 : Int32) (M : am_I) (N : am_N) : Prop :=
  ((l1 ≤ l2 → post (M (3, 0, 1) 1624) M N) ∧ (¬ l1 ≤ l2 → w_X12_hour M N (fun zM1 zN2 => zk31 l1 (l2 + 1) zM1 zN2)))
noncomputable def w_X12_pass_p31 (post : Int32 → am_I → am_N → Prop) (n : Nat) : Int32 → Int32 → am_I → am_N → Prop :=
  Nat.rec (motive := fun _ => Int32 → Int32 → am_I → am_N → Prop) (fun _ _ _ _ => False) (fun _ zk => w_X12_pass_p31_b post zk) n
theorem w_X12_pass_p31_s (post : Int32 → am_I → am_N → Prop) (n : Nat) (l1 : Int32) (l2 : Int32) (M : am_I) (N : am_N) : w_X12_pass_p31 post (n + 1) l1 l2 M N = w_X12_pass_p31_b post (w_X12_pass_p31 post n) l1 l2 M N := rfl
set_option maxRecDepth 10000 in
theorem k_X12_pass_p31 {d : Nat} {dm : List am_C} (h3 : am_d3 dm) {post : Int32 → am_I → am_N → Prop} : ∀ (n : Nat) (l1 : Int32) (l2 : Int32) (M : am_I) (N : am_N), w_X12_pass_p31 post n l1 l2 M N → jg (d + 8) mX12_pass dm 31 [(0, .inr (.inr (3, 0, 0))), (1, .inl l1), (2, .inl l2)] [] M N (am_pi post) := by
  intro n
  induction n with
  | zero => intro l1 l2 M N h; exact h.elim
  | succ n zih =>
    intro l1 l2 M N h
    replace h : w_X12_pass_p31_b post (w_X12_pass_p31 post n) l1 l2 M N := h
    refine j_iload_n 2 dX12_pass_31 rfl ?_
    refine j_iload_n 1 dX12_pass_32 rfl ?_
    refine j_icmp_ge (tgt := 46) dX12_pass_33 (by decide) (fun hc => ?_) (fun hc => ?_)
    · replace h := h.1 hc
      refine j_aload_n 0 dX12_pass_46 rfl ?_
      refine j_getR (b := (3, 0, 1)) dX12_pass_47 fsRX12_7 (h3 0 (by decide)) rfl rfl ?_
      refine j_sipush (v := 1624) dX12_pass_50 (by decide) ?_
      refine j_iald dX12_pass_53 (h3 1 (by decide)) rfl (by unfold vp_in; decide) ?_
      exact j_iret dX12_pass_54 rfl ⟨_, rfl, h⟩
    · replace h := h.2 hc
      refine j_aload_n 0 dX12_pass_36 rfl ?_
      refine j_invV (As := []) dX12_pass_37 msRX12_319 mbX12_hour rfl rfl (Nat.le_of_ble_eq_true rfl) (Nat.le_of_ble_eq_true rfl) (by omega) (h3 0 (by decide)) rfl rfl (k_X12_hour (d := d + 0) h3 h) ?_
      rintro _ zM1 zN2 ⟨rfl, h⟩
      refine j_iinc 2 dX12_pass_40 rfl rfl (by decide) rfl ?_
      refine j_goto (tgt := 31) dX12_pass_43 (by decide) ?_
      refine j_sub [1, 2, 0] rfl ?_
      exact zih _ _ _ _ h
def w_X12_pass (a1 : Int32) (M : am_I) (N : am_N) (post : Int32 → am_I → am_N → Prop) : Prop :=
  w_X12_isIn a1 1 200 M N (fun zr1 zM2 zN3 => ((zr1 = 0 → post (-1) zM2 zN3) ∧ (¬ zr1 = 0 → (((zM2 (3, 0, 1) 1624) ≤ (719 - a1) → ∃ n, w_X12_pass_p31 post n a1 0 zM2 zN3) ∧ (¬ (zM2 (3, 0, 1) 1624) ≤ (719 - a1) → post (-1) zM2 zN3)))))
set_option maxRecDepth 10000 in
theorem k_X12_pass {d : Nat} {dm : List am_C} (h3 : am_d3 dm) {a1 : Int32} {M : am_I} {N : am_N} {post : Int32 → am_I → am_N → Prop} (h : w_X12_pass a1 M N post) : jg (d + 8) mX12_pass dm 0 [(0, .inr (.inr (3, 0, 0))), (1, .inl a1)] [] M N (am_pi post) := by
  refine j_iload_n 1 dX12_pass_0 rfl ?_
  refine j_iconst (v := 1) dX12_pass_1 (by decide) ?_
  refine j_sipush (v := 200) dX12_pass_2 (by decide) ?_
  refine j_invS (As := [.inl a1, .inl 1, .inl 200]) dX12_pass_5 msRX12_162 mbX12_isIn rfl rfl (Nat.le_of_ble_eq_true rfl) (Nat.le_of_ble_eq_true rfl) (by omega) (k_X12_isIn (d := d + 6)  h) ?_
  rintro _ zM2 zN3 ⟨zr1, rfl, h⟩
  refine j_if_eq (tgt := 27) dX12_pass_8 (by decide) (fun hc => ?_) (fun hc => ?_)
  · replace h := h.1 hc
    refine j_iconst (v := (-1)) dX12_pass_27 (by decide) ?_
    exact j_iret dX12_pass_28 rfl ⟨_, rfl, h⟩
  · replace h := h.2 hc
    refine j_aload_n 0 dX12_pass_11 rfl ?_
    refine j_getR (b := (3, 0, 1)) dX12_pass_12 fsRX12_7 (h3 0 (by decide)) rfl rfl ?_
    refine j_sipush (v := 1624) dX12_pass_15 (by decide) ?_
    refine j_iald dX12_pass_18 (h3 1 (by decide)) rfl (by unfold vp_in; decide) ?_
    refine j_sipush (v := 719) dX12_pass_19 (by decide) ?_
    refine j_iload_n 1 dX12_pass_22 rfl ?_
    refine j_isub dX12_pass_23 ?_
    refine j_icmp_le (tgt := 29) dX12_pass_24 (by decide) (fun hc => ?_) (fun hc => ?_)
    · replace h := h.1 hc
      refine j_iconst (v := 0) dX12_pass_29 (by decide) ?_
      refine j_istore_n dX12_pass_30 (by decide) rfl ?_
      refine j_sub [1, 2, 0] rfl ?_
      obtain ⟨n, h⟩ := h
      exact k_X12_pass_p31 h3 n _ _ _ _ h
    · replace h := h.2 hc
      refine j_iconst (v := (-1)) dX12_pass_27 (by decide) ?_
      exact j_iret dX12_pass_28 rfl ⟨_, rfl, h⟩
def w_X12_again_p211_b (post : Int32 → am_I → am_N → Prop) (zk211 : Int64 → Int64 → Int32 → Int32 → am_I → am_N → Prop) (l6 : Int64) (l8 : Int64) (l11 : Int32) (l12 : Int32) (M : am_I) (N : am_N) : Prop :=
  ((1635 ≤ l12 → post l11 M (am_ul (am_ul N (3, 0, 0) 2 l6) (3, 0, 0) 3 l8)) ∧ (¬ 1635 ≤ l12 → vp_in l12 1635 ∧ vp_in l12 1635 ∧ zk211 l6 l8 l11 (l12 + 1) (am_u M (3, 0, 1) l12.toNatClampNeg (M (3, 0, 2) l12.toNatClampNeg)) N))
noncomputable def w_X12_again_p211 (post : Int32 → am_I → am_N → Prop) (n : Nat) : Int64 → Int64 → Int32 → Int32 → am_I → am_N → Prop :=
  Nat.rec (motive := fun _ => Int64 → Int64 → Int32 → Int32 → am_I → am_N → Prop) (fun _ _ _ _ _ _ => False) (fun _ zk => w_X12_again_p211_b post zk) n
theorem w_X12_again_p211_s (post : Int32 → am_I → am_N → Prop) (n : Nat) (l6 : Int64) (l8 : Int64) (l11 : Int32) (l12 : Int32) (M : am_I) (N : am_N) : w_X12_again_p211 post (n + 1) l6 l8 l11 l12 M N = w_X12_again_p211_b post (w_X12_again_p211 post n) l6 l8 l11 l12 M N := rfl
set_option maxRecDepth 10000 in
theorem k_X12_again_p211 {d : Nat} {dm : List am_C} (h3 : am_d3 dm) {post : Int32 → am_I → am_N → Prop} : ∀ (n : Nat) (l6 : Int64) (l8 : Int64) (l11 : Int32) (l12 : Int32) (M : am_I) (N : am_N), w_X12_again_p211 post n l6 l8 l11 l12 M N → jg (d + 8) mX12_again dm 211 [(0, .inr (.inr (3, 0, 0))), (6, .inr (.inl l6)), (8, .inr (.inl l8)), (11, .inl l11), (12, .inl l12)] [] M N (am_pi post) := by
  intro n
  induction n with
  | zero => intro l6 l8 l11 l12 M N h; exact h.elim
  | succ n zih =>
    intro l6 l8 l11 l12 M N h
    replace h : w_X12_again_p211_b post (w_X12_again_p211 post n) l6 l8 l11 l12 M N := h
    refine j_iload 4 dX12_again_211 rfl ?_
    refine j_sipush (v := 1635) dX12_again_213 (by decide) ?_
    refine j_icmp_ge (tgt := 239) dX12_again_216 (by decide) (fun hc => ?_) (fun hc => ?_)
    · replace h := h.1 hc
      refine j_aload_n 0 dX12_again_239 rfl ?_
      refine j_lload 1 dX12_again_240 rfl ?_
      refine j_putL dX12_again_242 fwRX12_155 (h3 0 (by decide)) rfl ?_
      refine j_aload_n 0 dX12_again_245 rfl ?_
      refine j_lload 2 dX12_again_246 rfl ?_
      refine j_putL dX12_again_248 fwRX12_159 (h3 0 (by decide)) rfl ?_
      refine j_iload 3 dX12_again_251 rfl ?_
      exact j_iret dX12_again_253 rfl ⟨_, rfl, h⟩
    · replace h := h.2 hc
      refine j_aload_n 0 dX12_again_219 rfl ?_
      refine j_getR (b := (3, 0, 1)) dX12_again_220 fsRX12_7 (h3 0 (by decide)) rfl rfl ?_
      refine j_iload 4 dX12_again_223 rfl ?_
      refine j_aload_n 0 dX12_again_225 rfl ?_
      refine j_getR (b := (3, 0, 2)) dX12_again_226 fsRX12_13 (h3 0 (by decide)) rfl rfl ?_
      refine j_iload 4 dX12_again_229 rfl ?_
      obtain ⟨hq, h⟩ := h
      refine j_iald dX12_again_231 (h3 2 (by decide)) rfl hq ?_
      obtain ⟨hq, h⟩ := h
      refine j_iast dX12_again_232 (h3 1 (by decide)) rfl hq ?_
      refine j_iinc 4 dX12_again_233 rfl rfl (by decide) rfl ?_
      refine j_goto (tgt := 211) dX12_again_236 (by decide) ?_
      refine j_sub [1, 2, 3, 4, 0] rfl ?_
      exact zih _ _ _ _ _ _ h
def w_X12_again_p155_b (post : Int32 → am_I → am_N → Prop) (zk133 : Int32 → Int32 → Int64 → Int64 → Int32 → Int32 → am_I → am_N → Prop) (zk155 : Int32 → Int32 → Int64 → Int64 → Int32 → Int32 → am_I → am_N → Prop) (l3 : Int32) (l4 : Int32) (l6 : Int64) (l8 : Int64) (l10 : Int32) (l11 : Int32) (M : am_I) (N : am_N) : Prop :=
  (((M (3, 0, 0) 4) ≤ l10 → zk133 l3 l4 l6 l8 l10 (l11 + 1) M N) ∧ (¬ (M (3, 0, 0) 4) ≤ l10 → vp_in l10 400 ∧ ((¬ (M (3, 0, 4) l10.toNatClampNeg) = l11 → zk133 l3 l4 l6 l8 l10 (l11 + 1) M N) ∧ ((M (3, 0, 4) l10.toNatClampNeg) = l11 → w_X12_does l10 M N (fun zM1 zN2 => zk155 l3 l4 l6 l8 (l10 + 1) l11 zM1 zN2)))))
noncomputable def w_X12_again_p155 (post : Int32 → am_I → am_N → Prop) (zk133 : Int32 → Int32 → Int64 → Int64 → Int32 → Int32 → am_I → am_N → Prop) (n : Nat) : Int32 → Int32 → Int64 → Int64 → Int32 → Int32 → am_I → am_N → Prop :=
  Nat.rec (motive := fun _ => Int32 → Int32 → Int64 → Int64 → Int32 → Int32 → am_I → am_N → Prop) (fun _ _ _ _ _ _ _ _ => False) (fun _ zk => w_X12_again_p155_b post zk133 zk) n
theorem w_X12_again_p155_s (post : Int32 → am_I → am_N → Prop) (zk133 : Int32 → Int32 → Int64 → Int64 → Int32 → Int32 → am_I → am_N → Prop) (n : Nat) (l3 : Int32) (l4 : Int32) (l6 : Int64) (l8 : Int64) (l10 : Int32) (l11 : Int32) (M : am_I) (N : am_N) : w_X12_again_p155 post zk133 (n + 1) l3 l4 l6 l8 l10 l11 M N = w_X12_again_p155_b post zk133 (w_X12_again_p155 post zk133 n) l3 l4 l6 l8 l10 l11 M N := rfl
set_option maxRecDepth 10000 in
theorem k_X12_again_p155 {d : Nat} {dm : List am_C} (h3 : am_d3 dm) {post : Int32 → am_I → am_N → Prop} {zk133 : Int32 → Int32 → Int64 → Int64 → Int32 → Int32 → am_I → am_N → Prop} (zhk133 : ∀ (l3 : Int32) (l4 : Int32) (l6 : Int64) (l8 : Int64) (l10 : Int32) (l11 : Int32) (M : am_I) (N : am_N), zk133 l3 l4 l6 l8 l10 l11 M N → jg (d + 8) mX12_again dm 133 [(0, .inr (.inr (3, 0, 0))), (3, .inl l3), (4, .inl l4), (6, .inr (.inl l6)), (8, .inr (.inl l8)), (10, .inl l10), (11, .inl l11)] [] M N (am_pi post)) : ∀ (n : Nat) (l3 : Int32) (l4 : Int32) (l6 : Int64) (l8 : Int64) (l10 : Int32) (l11 : Int32) (M : am_I) (N : am_N), w_X12_again_p155 post zk133 n l3 l4 l6 l8 l10 l11 M N → jg (d + 8) mX12_again dm 155 [(0, .inr (.inr (3, 0, 0))), (3, .inl l3), (4, .inl l4), (6, .inr (.inl l6)), (8, .inr (.inl l8)), (10, .inl l10), (11, .inl l11)] [] M N (am_pi post) := by
  intro n
  induction n with
  | zero => intro l3 l4 l6 l8 l10 l11 M N h; exact h.elim
  | succ n zih =>
    intro l3 l4 l6 l8 l10 l11 M N h
    replace h : w_X12_again_p155_b post zk133 (w_X12_again_p155 post zk133 n) l3 l4 l6 l8 l10 l11 M N := h
    refine j_iload 5 dX12_again_155 rfl ?_
    refine j_aload_n 0 dX12_again_157 rfl ?_
    refine j_getI dX12_again_158 fsRX12_175 (h3 0 (by decide)) rfl ?_
    refine j_icmp_ge (tgt := 188) dX12_again_161 (by decide) (fun hc => ?_) (fun hc => ?_)
    · replace h := h.1 hc
      refine j_iinc 6 dX12_again_188 rfl rfl (by decide) rfl ?_
      refine j_goto (tgt := 133) dX12_again_191 (by decide) ?_
      refine j_sub [1, 2, 3, 4, 5, 6, 0] rfl ?_
      exact zhk133 _ _ _ _ _ _ _ _ h
    · replace h := h.2 hc
      refine j_aload_n 0 dX12_again_164 rfl ?_
      refine j_getR (b := (3, 0, 4)) dX12_again_165 fsRX12_19 (h3 0 (by decide)) rfl rfl ?_
      refine j_iload 5 dX12_again_168 rfl ?_
      obtain ⟨hq, h⟩ := h
      refine j_iald dX12_again_170 (h3 4 (by decide)) rfl hq ?_
      refine j_iload 6 dX12_again_171 rfl ?_
      refine j_icmp_ne (tgt := 188) dX12_again_173 (by decide) (fun hc => ?_) (fun hc => ?_)
      · replace h := h.1 hc
        refine j_iinc 6 dX12_again_188 rfl rfl (by decide) rfl ?_
        refine j_goto (tgt := 133) dX12_again_191 (by decide) ?_
        refine j_sub [1, 2, 3, 4, 5, 6, 0] rfl ?_
        exact zhk133 _ _ _ _ _ _ _ _ h
      · replace h := h.2 hc
        refine j_aload_n 0 dX12_again_176 rfl ?_
        refine j_iload 5 dX12_again_177 rfl ?_
        refine j_invV (As := [.inl l10]) dX12_again_179 msRX12_178 mbX12_does rfl rfl (Nat.le_of_ble_eq_true rfl) (Nat.le_of_ble_eq_true rfl) (by omega) (h3 0 (by decide)) rfl rfl (k_X12_does (d := d + 4) h3 h) ?_
        rintro _ zM1 zN2 ⟨rfl, h⟩
        refine j_iinc 5 dX12_again_182 rfl rfl (by decide) rfl ?_
        refine j_goto (tgt := 155) dX12_again_185 (by decide) ?_
        refine j_sub [1, 2, 3, 4, 5, 0, 6] rfl ?_
        exact zih _ _ _ _ _ _ _ _ h
def w_X12_again_p133_b (post : Int32 → am_I → am_N → Prop) (zk133 : Int32 → Int32 → Int64 → Int64 → Int32 → Int32 → am_I → am_N → Prop) (l3 : Int32) (l4 : Int32) (l6 : Int64) (l8 : Int64) (l10 : Int32) (l11 : Int32) (M : am_I) (N : am_N) : Prop :=
  (((M (3, 0, 2) 1624) < l11 → w_X12_cellOf l3 l4 M N (fun zr1 zM2 zN3 => ∃ n, w_X12_again_p211 post n l6 l8 zr1 0 (am_u zM2 (3, 0, 0) 30 (-1)) zN3)) ∧ (¬ (M (3, 0, 2) 1624) < l11 → ((l11 ≤ 0 → ∃ n, w_X12_again_p155 post zk133 n l3 l4 l6 l8 l10 l11 M N) ∧ (¬ l11 ≤ 0 → w_X12_hour M N (fun zM4 zN5 => ∃ n, w_X12_again_p155 post zk133 n l3 l4 l6 l8 l10 l11 zM4 zN5)))))
noncomputable def w_X12_again_p133 (post : Int32 → am_I → am_N → Prop) (n : Nat) : Int32 → Int32 → Int64 → Int64 → Int32 → Int32 → am_I → am_N → Prop :=
  Nat.rec (motive := fun _ => Int32 → Int32 → Int64 → Int64 → Int32 → Int32 → am_I → am_N → Prop) (fun _ _ _ _ _ _ _ _ => False) (fun _ zk => w_X12_again_p133_b post zk) n
theorem w_X12_again_p133_s (post : Int32 → am_I → am_N → Prop) (n : Nat) (l3 : Int32) (l4 : Int32) (l6 : Int64) (l8 : Int64) (l10 : Int32) (l11 : Int32) (M : am_I) (N : am_N) : w_X12_again_p133 post (n + 1) l3 l4 l6 l8 l10 l11 M N = w_X12_again_p133_b post (w_X12_again_p133 post n) l3 l4 l6 l8 l10 l11 M N := rfl
set_option maxRecDepth 10000 in
theorem k_X12_again_p133 {d : Nat} {dm : List am_C} (h3 : am_d3 dm) {post : Int32 → am_I → am_N → Prop} : ∀ (n : Nat) (l3 : Int32) (l4 : Int32) (l6 : Int64) (l8 : Int64) (l10 : Int32) (l11 : Int32) (M : am_I) (N : am_N), w_X12_again_p133 post n l3 l4 l6 l8 l10 l11 M N → jg (d + 8) mX12_again dm 133 [(0, .inr (.inr (3, 0, 0))), (3, .inl l3), (4, .inl l4), (6, .inr (.inl l6)), (8, .inr (.inl l8)), (10, .inl l10), (11, .inl l11)] [] M N (am_pi post) := by
  intro n
  induction n with
  | zero => intro l3 l4 l6 l8 l10 l11 M N h; exact h.elim
  | succ n zih =>
    intro l3 l4 l6 l8 l10 l11 M N h
    replace h : w_X12_again_p133_b post (w_X12_again_p133 post n) l3 l4 l6 l8 l10 l11 M N := h
    refine j_iload 6 dX12_again_133 rfl ?_
    refine j_aload_n 0 dX12_again_135 rfl ?_
    refine j_getR (b := (3, 0, 2)) dX12_again_136 fsRX12_13 (h3 0 (by decide)) rfl rfl ?_
    refine j_sipush (v := 1624) dX12_again_139 (by decide) ?_
    refine j_iald dX12_again_142 (h3 2 (by decide)) rfl (by unfold vp_in; decide) ?_
    refine j_icmp_gt (tgt := 194) dX12_again_143 (by decide) (fun hc => ?_) (fun hc => ?_)
    · replace h := h.1 hc
      refine j_aload_n 0 dX12_again_194 rfl ?_
      refine j_iload_n 1 dX12_again_195 rfl ?_
      refine j_iload 2 dX12_again_196 rfl ?_
      refine j_invV (As := [.inl l3, .inl l4]) dX12_again_198 msRX12_325 mbX12_cellOf rfl rfl (Nat.le_of_ble_eq_true rfl) (Nat.le_of_ble_eq_true rfl) (by omega) (h3 0 (by decide)) rfl rfl (k_X12_cellOf (d := d + 5) h3 h) ?_
      rintro _ zM2 zN3 ⟨zr1, rfl, h⟩
      refine j_istore dX12_again_201 (by decide) rfl ?_
      refine j_aload_n 1 dX12_again_203 rfl ?_
      refine j_iconst (v := (-1)) dX12_again_204 (by decide) ?_
      refine j_putI dX12_again_205 fwRX12_77 (h3 0 (by decide)) rfl ?_
      refine j_iconst (v := 0) dX12_again_208 (by decide) ?_
      refine j_istore dX12_again_209 (by decide) rfl ?_
      refine j_sub [2, 5, 6, 1, 0] rfl ?_
      obtain ⟨n, h⟩ := h
      exact k_X12_again_p211 h3 n _ _ _ _ _ _ h
    · replace h := h.2 hc
      refine j_iload 6 dX12_again_146 rfl ?_
      refine j_if_le (tgt := 155) dX12_again_148 (by decide) (fun hc => ?_) (fun hc => ?_)
      · replace h := h.1 hc
        refine j_sub [0, 1, 2, 3, 4, 5, 6] rfl ?_
        obtain ⟨n, h⟩ := h
        exact k_X12_again_p155 h3 zih n _ _ _ _ _ _ _ _ h
      · replace h := h.2 hc
        refine j_aload_n 0 dX12_again_151 rfl ?_
        refine j_invV (As := []) dX12_again_152 msRX12_319 mbX12_hour rfl rfl (Nat.le_of_ble_eq_true rfl) (Nat.le_of_ble_eq_true rfl) (by omega) (h3 0 (by decide)) rfl rfl (k_X12_hour (d := d + 0) h3 h) ?_
        rintro _ zM4 zN5 ⟨rfl, h⟩
        refine j_sub [0, 1, 2, 3, 4, 5, 6] rfl ?_
        obtain ⟨n, h⟩ := h
        exact k_X12_again_p155 h3 zih n _ _ _ _ _ _ _ _ h
def w_X12_again_p73_b (post : Int32 → am_I → am_N → Prop) (zk73 : Int32 → Int32 → Int32 → Int32 → Int32 → am_I → am_N → Prop) (l1 : Int32) (l2 : Int32) (l3 : Int32) (l4 : Int32) (l6 : Int32) (M : am_I) (N : am_N) : Prop :=
  ((1635 ≤ l6 → ∀ zv1 : Int64, zv1 = N (3, 0, 0) 2 → ∀ zv2 : Int64, zv2 = N (3, 0, 0) 3 → w_X12_begins (am_u (am_u M (3, 0, 0) 30 l1) (3, 0, 0) 31 l2) N (fun zM3 zN4 => ∃ n, w_X12_again_p133 post n l3 l4 zv1 zv2 0 0 zM3 zN4)) ∧ (¬ 1635 ≤ l6 → vp_in l6 1635 ∧ vp_in l6 1635 ∧ zk73 l1 l2 l3 l4 (l6 + 1) (am_u M (3, 0, 2) l6.toNatClampNeg (M (3, 0, 1) l6.toNatClampNeg)) N))
noncomputable def w_X12_again_p73 (post : Int32 → am_I → am_N → Prop) (n : Nat) : Int32 → Int32 → Int32 → Int32 → Int32 → am_I → am_N → Prop :=
  Nat.rec (motive := fun _ => Int32 → Int32 → Int32 → Int32 → Int32 → am_I → am_N → Prop) (fun _ _ _ _ _ _ _ => False) (fun _ zk => w_X12_again_p73_b post zk) n
theorem w_X12_again_p73_s (post : Int32 → am_I → am_N → Prop) (n : Nat) (l1 : Int32) (l2 : Int32) (l3 : Int32) (l4 : Int32) (l6 : Int32) (M : am_I) (N : am_N) : w_X12_again_p73 post (n + 1) l1 l2 l3 l4 l6 M N = w_X12_again_p73_b post (w_X12_again_p73 post n) l1 l2 l3 l4 l6 M N := rfl
set_option maxRecDepth 10000 in
theorem k_X12_again_p73 {d : Nat} {dm : List am_C} (h3 : am_d3 dm) {post : Int32 → am_I → am_N → Prop} : ∀ (n : Nat) (l1 : Int32) (l2 : Int32) (l3 : Int32) (l4 : Int32) (l6 : Int32) (M : am_I) (N : am_N), w_X12_again_p73 post n l1 l2 l3 l4 l6 M N → jg (d + 8) mX12_again dm 73 [(0, .inr (.inr (3, 0, 0))), (1, .inl l1), (2, .inl l2), (3, .inl l3), (4, .inl l4), (6, .inl l6)] [] M N (am_pi post) := by
  intro n
  induction n with
  | zero => intro l1 l2 l3 l4 l6 M N h; exact h.elim
  | succ n zih =>
    intro l1 l2 l3 l4 l6 M N h
    replace h : w_X12_again_p73_b post (w_X12_again_p73 post n) l1 l2 l3 l4 l6 M N := h
    refine j_iload 5 dX12_again_73 rfl ?_
    refine j_sipush (v := 1635) dX12_again_75 (by decide) ?_
    refine j_icmp_ge (tgt := 101) dX12_again_78 (by decide) (fun hc => ?_) (fun hc => ?_)
    · replace h := h.1 hc
      refine j_aload_n 0 dX12_again_101 rfl ?_
      refine j_getL dX12_again_102 fsRX12_155 (h3 0 (by decide)) rfl ?_
      refine j_topl (fun zv1 hzv1 => ?_)
      replace h := h zv1 hzv1
      refine j_lstore dX12_again_105 (by decide) rfl ?_
      refine j_aload_n 1 dX12_again_107 rfl ?_
      refine j_getL dX12_again_108 fsRX12_159 (h3 0 (by decide)) rfl ?_
      refine j_topl (fun zv2 hzv2 => ?_)
      replace h := h zv2 hzv2
      refine j_lstore dX12_again_111 (by decide) rfl ?_
      refine j_aload_n 2 dX12_again_113 rfl ?_
      refine j_iload_n 3 dX12_again_114 rfl ?_
      refine j_putI dX12_again_115 fwRX12_77 (h3 0 (by decide)) rfl ?_
      refine j_aload_n 2 dX12_again_118 rfl ?_
      refine j_iload_n 4 dX12_again_119 rfl ?_
      refine j_putI dX12_again_120 fwRX12_172 (h3 0 (by decide)) rfl ?_
      refine j_aload_n 2 dX12_again_123 rfl ?_
      refine j_invV (As := []) dX12_again_124 msRX12_152 mbX12_begins rfl rfl (Nat.le_of_ble_eq_true rfl) (Nat.le_of_ble_eq_true rfl) (by omega) (h3 0 (by decide)) rfl rfl (k_X12_begins (d := d + 6) h3 h) ?_
      rintro _ zM3 zN4 ⟨rfl, h⟩
      refine j_iconst (v := 0) dX12_again_127 (by decide) ?_
      refine j_istore dX12_again_128 (by decide) rfl ?_
      refine j_iconst (v := 0) dX12_again_130 (by decide) ?_
      refine j_istore dX12_again_131 (by decide) rfl ?_
      refine j_sub [4, 7, 8, 3, 2, 1, 0] rfl ?_
      obtain ⟨n, h⟩ := h
      exact k_X12_again_p133 h3 n _ _ _ _ _ _ _ _ h
    · replace h := h.2 hc
      refine j_aload_n 0 dX12_again_81 rfl ?_
      refine j_getR (b := (3, 0, 2)) dX12_again_82 fsRX12_13 (h3 0 (by decide)) rfl rfl ?_
      refine j_iload 5 dX12_again_85 rfl ?_
      refine j_aload_n 0 dX12_again_87 rfl ?_
      refine j_getR (b := (3, 0, 1)) dX12_again_88 fsRX12_7 (h3 0 (by decide)) rfl rfl ?_
      refine j_iload 5 dX12_again_91 rfl ?_
      obtain ⟨hq, h⟩ := h
      refine j_iald dX12_again_93 (h3 1 (by decide)) rfl hq ?_
      obtain ⟨hq, h⟩ := h
      refine j_iast dX12_again_94 (h3 2 (by decide)) rfl hq ?_
      refine j_iinc 5 dX12_again_95 rfl rfl (by decide) rfl ?_
      refine j_goto (tgt := 73) dX12_again_98 (by decide) ?_
      refine j_sub [1, 2, 3, 4, 5, 0] rfl ?_
      exact zih _ _ _ _ _ _ _ h
def w_X12_again_p36 (post : Int32 → am_I → am_N → Prop) (l1 : Int32) (l2 : Int32) (l3 : Int32) (l4 : Int32) (s0 : Int32) (M : am_I) (N : am_N) : Prop :=
  w_X12_isIn l2 0 (s0 - 1) M N (fun zr1 zM2 zN3 => ((zr1 = 0 → post (-1) zM2 zN3) ∧ (¬ zr1 = 0 → w_X12_isCell l3 zM2 zN3 (fun zr4 zM5 zN6 => ((zr4 = 0 → post (-1) zM5 zN6) ∧ (¬ zr4 = 0 → w_X12_isIn l4 0 10 zM5 zN6 (fun zr7 zM8 zN9 => ((¬ zr7 = 0 → ∃ n, w_X12_again_p73 post n l1 l2 l3 l4 0 zM8 zN9) ∧ (zr7 = 0 → post (-1) zM8 zN9)))))))))
set_option maxRecDepth 10000 in
theorem k_X12_again_p36 {d : Nat} {dm : List am_C} (h3 : am_d3 dm) {post : Int32 → am_I → am_N → Prop} (l1 : Int32) (l2 : Int32) (l3 : Int32) (l4 : Int32) (s0 : Int32) (M : am_I) (N : am_N) (h : w_X12_again_p36 post l1 l2 l3 l4 s0 M N) : jg (d + 8) mX12_again dm 36 [(0, .inr (.inr (3, 0, 0))), (1, .inl l1), (2, .inl l2), (3, .inl l3), (4, .inl l4)] [.inl s0] M N (am_pi post) := by
  refine j_istore dX12_again_36 (by decide) rfl ?_
  refine j_iload_n 3 dX12_again_38 rfl ?_
  refine j_iconst (v := 0) dX12_again_39 (by decide) ?_
  refine j_iload 0 dX12_again_40 rfl ?_
  refine j_iconst (v := 1) dX12_again_42 (by decide) ?_
  refine j_isub dX12_again_43 ?_
  refine j_invS (As := [.inl l2, .inl 0, .inl (s0 - 1)]) dX12_again_44 msRX12_162 mbX12_isIn rfl rfl (Nat.le_of_ble_eq_true rfl) (Nat.le_of_ble_eq_true rfl) (by omega) (k_X12_isIn (d := d + 6)  h) ?_
  rintro _ zM2 zN3 ⟨zr1, rfl, h⟩
  refine j_if_eq (tgt := 68) dX12_again_47 (by decide) (fun hc => ?_) (fun hc => ?_)
  · replace h := h.1 hc
    refine j_iconst (v := (-1)) dX12_again_68 (by decide) ?_
    exact j_iret dX12_again_69 rfl ⟨_, rfl, h⟩
  · replace h := h.2 hc
    refine j_iload_n 4 dX12_again_50 rfl ?_
    refine j_invS (As := [.inl l3]) dX12_again_51 msRX12_199 mbX12_isCell rfl rfl (Nat.le_of_ble_eq_true rfl) (Nat.le_of_ble_eq_true rfl) (by omega) (k_X12_isCell (d := d + 5)  h) ?_
    rintro _ zM5 zN6 ⟨zr4, rfl, h⟩
    refine j_if_eq (tgt := 68) dX12_again_54 (by decide) (fun hc => ?_) (fun hc => ?_)
    · replace h := h.1 hc
      refine j_iconst (v := (-1)) dX12_again_68 (by decide) ?_
      exact j_iret dX12_again_69 rfl ⟨_, rfl, h⟩
    · replace h := h.2 hc
      refine j_iload 5 dX12_again_57 rfl ?_
      refine j_iconst (v := 0) dX12_again_59 (by decide) ?_
      refine j_bipush (v := 10) dX12_again_60 (by decide) ?_
      refine j_invS (As := [.inl l4, .inl 0, .inl 10]) dX12_again_62 msRX12_162 mbX12_isIn rfl rfl (Nat.le_of_ble_eq_true rfl) (Nat.le_of_ble_eq_true rfl) (by omega) (k_X12_isIn (d := d + 6)  h) ?_
      rintro _ zM8 zN9 ⟨zr7, rfl, h⟩
      refine j_if_ne (tgt := 70) dX12_again_65 (by decide) (fun hc => ?_) (fun hc => ?_)
      · replace h := h.1 hc
        refine j_iconst (v := 0) dX12_again_70 (by decide) ?_
        refine j_istore dX12_again_71 (by decide) rfl ?_
        refine j_sub [2, 3, 4, 5, 6, 0] rfl ?_
        obtain ⟨n, h⟩ := h
        exact k_X12_again_p73 h3 n _ _ _ _ _ _ _ h
      · replace h := h.2 hc
        refine j_iconst (v := (-1)) dX12_again_68 (by decide) ?_
        exact j_iret dX12_again_69 rfl ⟨_, rfl, h⟩
def w_X12_again (a1 : Int32) (a2 : Int32) (a3 : Int32) (a4 : Int32) (M : am_I) (N : am_N) (post : Int32 → am_I → am_N → Prop) : Prop :=
  ((¬ a1 = 0 → ((¬ a1 = 1 → ((¬ a1 = 2 → w_X12_again_p36 post a1 a2 a3 a4 0 M N) ∧ (a1 = 2 → w_X12_again_p36 post a1 a2 a3 a4 (M (3, 0, 0) 12) M N))) ∧ (a1 = 1 → w_X12_again_p36 post a1 a2 a3 a4 (M (3, 0, 0) 11) M N))) ∧ (a1 = 0 → w_X12_again_p36 post a1 a2 a3 a4 (M (3, 0, 0) 10) M N))
set_option maxRecDepth 10000 in
theorem k_X12_again {d : Nat} {dm : List am_C} (h3 : am_d3 dm) {a1 : Int32} {a2 : Int32} {a3 : Int32} {a4 : Int32} {M : am_I} {N : am_N} {post : Int32 → am_I → am_N → Prop} (h : w_X12_again a1 a2 a3 a4 M N post) : jg (d + 8) mX12_again dm 0 [(0, .inr (.inr (3, 0, 0))), (1, .inl a1), (2, .inl a2), (3, .inl a3), (4, .inl a4)] [] M N (am_pi post) := by
  refine j_iload_n 1 dX12_again_0 rfl ?_
  refine j_if_ne (tgt := 11) dX12_again_1 (by decide) (fun hc => ?_) (fun hc => ?_)
  · replace h := h.1 hc
    refine j_iload_n 1 dX12_again_11 rfl ?_
    refine j_iconst (v := 1) dX12_again_12 (by decide) ?_
    refine j_icmp_ne (tgt := 23) dX12_again_13 (by decide) (fun hc => ?_) (fun hc => ?_)
    · replace h := h.1 hc
      refine j_iload_n 1 dX12_again_23 rfl ?_
      refine j_iconst (v := 2) dX12_again_24 (by decide) ?_
      refine j_icmp_ne (tgt := 35) dX12_again_25 (by decide) (fun hc => ?_) (fun hc => ?_)
      · replace h := h.1 hc
        refine j_iconst (v := 0) dX12_again_35 (by decide) ?_
        refine j_sub [0, 1, 2, 3, 4] rfl ?_
        exact k_X12_again_p36 h3 _ _ _ _ _ _ _ h
      · replace h := h.2 hc
        refine j_aload_n 0 dX12_again_28 rfl ?_
        refine j_getI dX12_again_29 fsRX12_219 (h3 0 (by decide)) rfl ?_
        refine j_goto (tgt := 36) dX12_again_32 (by decide) ?_
        refine j_sub [0, 1, 2, 3, 4] rfl ?_
        exact k_X12_again_p36 h3 _ _ _ _ _ _ _ h
    · replace h := h.2 hc
      refine j_aload_n 0 dX12_again_16 rfl ?_
      refine j_getI dX12_again_17 fsRX12_213 (h3 0 (by decide)) rfl ?_
      refine j_goto (tgt := 36) dX12_again_20 (by decide) ?_
      refine j_sub [0, 1, 2, 3, 4] rfl ?_
      exact k_X12_again_p36 h3 _ _ _ _ _ _ _ h
  · replace h := h.2 hc
    refine j_aload_n 0 dX12_again_4 rfl ?_
    refine j_getI dX12_again_5 fsRX12_210 (h3 0 (by decide)) rfl ?_
    refine j_goto (tgt := 36) dX12_again_8 (by decide) ?_
    refine j_sub [0, 1, 2, 3, 4] rfl ?_
    exact k_X12_again_p36 h3 _ _ _ _ _ _ _ h
def w_X12_plan_p48 (post : Int32 → am_I → am_N → Prop) (l1 : Int32) (s0 : Int32) (M : am_I) (N : am_N) : Prop :=
  w_X12_work s0 l1 0 M N (fun zr1 zM2 zN3 => post zr1 zM2 zN3)
set_option maxRecDepth 10000 in
theorem k_X12_plan_p48 {d : Nat} {dm : List am_C} (h3 : am_d3 dm) {post : Int32 → am_I → am_N → Prop} (l1 : Int32) (s0 : Int32) (M : am_I) (N : am_N) (h : w_X12_plan_p48 post l1 s0 M N) : jg (d + 6) mX12_plan dm 48 [(1, .inl l1)] [.inl s0, .inr (.inr (3, 0, 0))] M N (am_pi post) := by
  refine j_iload_n 0 dX12_plan_48 rfl ?_
  refine j_iconst (v := 0) dX12_plan_49 (by decide) ?_
  refine j_invV (As := [.inl s0, .inl l1, .inl 0]) dX12_plan_50 msRX12_498 mbX12_work rfl rfl (Nat.le_of_ble_eq_true rfl) (Nat.le_of_ble_eq_true rfl) (by omega) (h3 0 (by decide)) rfl rfl (k_X12_work (d := d + 0) h3 h) ?_
  rintro _ zM2 zN3 ⟨zr1, rfl, h⟩
  exact j_iret dX12_plan_53 rfl ⟨_, rfl, h⟩
def w_X12_plan (a1 : Int32) (M : am_I) (N : am_N) (post : Int32 → am_I → am_N → Prop) : Prop :=
  w_X12_toDo a1 M N (fun zr1 zM2 zN3 => ((zr1 = (-1) → post (-1) zM2 zN3) ∧ (¬ zr1 = (-1) → vp_in zr1 216 ∧ ((¬ (zM2 (3, 0, 35) zr1.toNatClampNeg) = 2 → vp_in zr1 216 ∧ (((zM2 (3, 0, 35) zr1.toNatClampNeg) = 3 → vp_in zr1 216 ∧ vp_in zr1 216 ∧ w_X12_runs (zM2 (3, 0, 36) zr1.toNatClampNeg) (zM2 (3, 0, 37) zr1.toNatClampNeg) zM2 zN3 (fun zr4 zM5 zN6 => w_J9_min_f86c9 999 zr4 zM5 zN6 (fun zr7 zM8 zN9 => w_J9_max_f86c9 1 zr7 zM8 zN9 (fun zr10 zM11 zN12 => w_X12_work 2 a1 zr10.toInt32 zM11 zN12 (fun zr13 zM14 zN15 => post zr13 zM14 zN15))))) ∧ (¬ (zM2 (3, 0, 35) zr1.toNatClampNeg) = 3 → vp_in zr1 216 ∧ ((¬ (zM2 (3, 0, 35) zr1.toNatClampNeg) = 0 → w_X12_plan_p48 post a1 0 zM2 zN3) ∧ ((zM2 (3, 0, 35) zr1.toNatClampNeg) = 0 → w_X12_plan_p48 post a1 1 zM2 zN3))))) ∧ ((zM2 (3, 0, 35) zr1.toNatClampNeg) = 2 → post (-1) zM2 zN3)))))
set_option maxRecDepth 10000 in
theorem k_X12_plan {d : Nat} {dm : List am_C} (h3 : am_d3 dm) {a1 : Int32} {M : am_I} {N : am_N} {post : Int32 → am_I → am_N → Prop} (h : w_X12_plan a1 M N post) : jg (d + 6) mX12_plan dm 0 [(0, .inr (.inr (3, 0, 0))), (1, .inl a1)] [] M N (am_pi post) := by
  refine j_aload_n 0 dX12_plan_0 rfl ?_
  refine j_iload_n 1 dX12_plan_1 rfl ?_
  refine j_invV (As := [.inl a1]) dX12_plan_2 msRX12_495 mbX12_toDo rfl rfl (Nat.le_of_ble_eq_true rfl) (Nat.le_of_ble_eq_true rfl) (by omega) (h3 0 (by decide)) rfl rfl (k_X12_toDo (d := d + 0) h3 h) ?_
  rintro _ zM2 zN3 ⟨zr1, rfl, h⟩
  refine j_istore_n dX12_plan_5 (by decide) rfl ?_
  refine j_iload_n 0 dX12_plan_6 rfl ?_
  refine j_iconst (v := (-1)) dX12_plan_7 (by decide) ?_
  refine j_icmp_eq (tgt := 21) dX12_plan_8 (by decide) (fun hc => ?_) (fun hc => ?_)
  · replace h := h.1 hc
    refine j_iconst (v := (-1)) dX12_plan_21 (by decide) ?_
    exact j_iret dX12_plan_22 rfl ⟨_, rfl, h⟩
  · replace h := h.2 hc
    refine j_aload_n 1 dX12_plan_11 rfl ?_
    refine j_getR (b := (3, 0, 35)) dX12_plan_12 fsRX12_121 (h3 0 (by decide)) rfl rfl ?_
    refine j_iload_n 0 dX12_plan_15 rfl ?_
    obtain ⟨hq, h⟩ := h
    refine j_iald dX12_plan_16 (h3 35 (by decide)) rfl hq ?_
    refine j_iconst (v := 2) dX12_plan_17 (by decide) ?_
    refine j_icmp_ne (tgt := 23) dX12_plan_18 (by decide) (fun hc => ?_) (fun hc => ?_)
    · replace h := h.1 hc
      refine j_aload_n 1 dX12_plan_23 rfl ?_
      refine j_getR (b := (3, 0, 35)) dX12_plan_24 fsRX12_121 (h3 0 (by decide)) rfl rfl ?_
      refine j_iload_n 0 dX12_plan_27 rfl ?_
      obtain ⟨hq, h⟩ := h
      refine j_iald dX12_plan_28 (h3 35 (by decide)) rfl hq ?_
      refine j_iconst (v := 3) dX12_plan_29 (by decide) ?_
      refine j_icmp_eq (tgt := 54) dX12_plan_30 (by decide) (fun hc => ?_) (fun hc => ?_)
      · replace h := h.1 hc
        refine j_aload_n 1 dX12_plan_54 rfl ?_
        refine j_iconst (v := 2) dX12_plan_55 (by decide) ?_
        refine j_iload_n 2 dX12_plan_56 rfl ?_
        refine j_lconst (v := 1) dX12_plan_57 (by decide) ?_
        refine j_ldc2 (v := 999) dX12_plan_58 cw_1949 ?_
        refine j_aload_n 1 dX12_plan_61 rfl ?_
        refine j_aload_n 1 dX12_plan_62 rfl ?_
        refine j_getR (b := (3, 0, 36)) dX12_plan_63 fsRX12_124 (h3 0 (by decide)) rfl rfl ?_
        refine j_iload_n 0 dX12_plan_66 rfl ?_
        obtain ⟨hq, h⟩ := h
        refine j_iald dX12_plan_67 (h3 36 (by decide)) rfl hq ?_
        refine j_aload_n 1 dX12_plan_68 rfl ?_
        refine j_getR (b := (3, 0, 37)) dX12_plan_69 fsRX12_127 (h3 0 (by decide)) rfl rfl ?_
        refine j_iload_n 0 dX12_plan_72 rfl ?_
        obtain ⟨hq, h⟩ := h
        refine j_iald dX12_plan_73 (h3 37 (by decide)) rfl hq ?_
        refine j_invV (As := [.inl (zM2 (3, 0, 36) zr1.toNatClampNeg), .inl (zM2 (3, 0, 37) zr1.toNatClampNeg)]) dX12_plan_74 msRX12_491 mbX12_runs rfl rfl (Nat.le_of_ble_eq_true rfl) (Nat.le_of_ble_eq_true rfl) (by omega) (h3 0 (by decide)) rfl rfl (k_X12_runs (d := d + 1) h3 h) ?_
        rintro _ zM5 zN6 ⟨zr4, rfl, h⟩
        refine j_invS (As := [.inr (.inl 999), .inr (.inl zr4)]) dX12_plan_77 msRX12_262 mbJ9_min_f86c9 rfl rfl (Nat.le_of_ble_eq_true rfl) (Nat.le_of_ble_eq_true rfl) (by omega) (k_J9_min_f86c9 (d := d + 4)  h) ?_
        rintro _ zM8 zN9 ⟨zr7, rfl, h⟩
        refine j_invS (As := [.inr (.inl 1), .inr (.inl zr7)]) dX12_plan_80 msRX12_469 mbJ9_max_f86c9 rfl rfl (Nat.le_of_ble_eq_true rfl) (Nat.le_of_ble_eq_true rfl) (by omega) (k_J9_max_f86c9 (d := d + 4)  h) ?_
        rintro _ zM11 zN12 ⟨zr10, rfl, h⟩
        refine j_l2i dX12_plan_83 ?_
        refine j_invV (As := [.inl 2, .inl a1, .inl zr10.toInt32]) dX12_plan_84 msRX12_498 mbX12_work rfl rfl (Nat.le_of_ble_eq_true rfl) (Nat.le_of_ble_eq_true rfl) (by omega) (h3 0 (by decide)) rfl rfl (k_X12_work (d := d + 0) h3 h) ?_
        rintro _ zM14 zN15 ⟨zr13, rfl, h⟩
        exact j_iret dX12_plan_87 rfl ⟨_, rfl, h⟩
      · replace h := h.2 hc
        refine j_aload_n 1 dX12_plan_33 rfl ?_
        refine j_aload_n 1 dX12_plan_34 rfl ?_
        refine j_getR (b := (3, 0, 35)) dX12_plan_35 fsRX12_121 (h3 0 (by decide)) rfl rfl ?_
        refine j_iload_n 0 dX12_plan_38 rfl ?_
        obtain ⟨hq, h⟩ := h
        refine j_iald dX12_plan_39 (h3 35 (by decide)) rfl hq ?_
        refine j_if_ne (tgt := 47) dX12_plan_40 (by decide) (fun hc => ?_) (fun hc => ?_)
        · replace h := h.1 hc
          refine j_iconst (v := 0) dX12_plan_47 (by decide) ?_
          refine j_sub [2] rfl ?_
          exact k_X12_plan_p48 h3 _ _ _ _ h
        · replace h := h.2 hc
          refine j_iconst (v := 1) dX12_plan_43 (by decide) ?_
          refine j_goto (tgt := 48) dX12_plan_44 (by decide) ?_
          refine j_sub [2] rfl ?_
          exact k_X12_plan_p48 h3 _ _ _ _ h
    · replace h := h.2 hc
      refine j_iconst (v := (-1)) dX12_plan_21 (by decide) ?_
      exact j_iret dX12_plan_22 rfl ⟨_, rfl, h⟩
