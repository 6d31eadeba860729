/-! ===== methods: 17.machine ===== -/
theorem dX3_push_0 : decode mX3_push.2.1 0 = .ok (.aload_n 0, 1) := by decide +kernel
theorem dX3_push_1 : decode mX3_push.2.1 1 = .ok (.getfield 37, 3) := by decide +kernel
theorem dX3_push_4 : decode mX3_push.2.1 4 = .ok (.bipush 64, 2) := by decide +kernel
theorem dX3_push_6 : decode mX3_push.2.1 6 = .ok (.if_icmp .ge 23, 3) := by decide +kernel
theorem dX3_push_9 : decode mX3_push.2.1 9 = .ok (.aload_n 0, 1) := by decide +kernel
theorem dX3_push_10 : decode mX3_push.2.1 10 = .ok (.getfield 15, 3) := by decide +kernel
theorem dX3_push_13 : decode mX3_push.2.1 13 = .ok (.aload_n 0, 1) := by decide +kernel
theorem dX3_push_14 : decode mX3_push.2.1 14 = .ok (.getfield 37, 3) := by decide +kernel
theorem dX3_push_17 : decode mX3_push.2.1 17 = .ok (.iload_n 1, 1) := by decide +kernel
theorem dX3_push_18 : decode mX3_push.2.1 18 = .ok (.iastore, 1) := by decide +kernel
theorem dX3_push_19 : decode mX3_push.2.1 19 = .ok (.aload_n 0, 1) := by decide +kernel
theorem dX3_push_20 : decode mX3_push.2.1 20 = .ok (.dup, 1) := by decide +kernel
theorem dX3_push_21 : decode mX3_push.2.1 21 = .ok (.getfield 37, 3) := by decide +kernel
theorem dX3_push_24 : decode mX3_push.2.1 24 = .ok (.iconst 1, 1) := by decide +kernel
theorem dX3_push_25 : decode mX3_push.2.1 25 = .ok (.iadd, 1) := by decide +kernel
theorem dX3_push_26 : decode mX3_push.2.1 26 = .ok (.putfield 37, 3) := by decide +kernel
theorem dX3_push_29 : decode mX3_push.2.1 29 = .ok (.return_, 1) := by decide +kernel
theorem dX3_pop_0 : decode mX3_pop.2.1 0 = .ok (.aload_n 0, 1) := by decide +kernel
theorem dX3_pop_1 : decode mX3_pop.2.1 1 = .ok (.getfield 37, 3) := by decide +kernel
theorem dX3_pop_4 : decode mX3_pop.2.1 4 = .ok (.ifCond .gt 5, 3) := by decide +kernel
theorem dX3_pop_7 : decode mX3_pop.2.1 7 = .ok (.iconst 0, 1) := by decide +kernel
theorem dX3_pop_8 : decode mX3_pop.2.1 8 = .ok (.ireturn, 1) := by decide +kernel
theorem dX3_pop_9 : decode mX3_pop.2.1 9 = .ok (.aload_n 0, 1) := by decide +kernel
theorem dX3_pop_10 : decode mX3_pop.2.1 10 = .ok (.dup, 1) := by decide +kernel
theorem dX3_pop_11 : decode mX3_pop.2.1 11 = .ok (.getfield 37, 3) := by decide +kernel
theorem dX3_pop_14 : decode mX3_pop.2.1 14 = .ok (.iconst 1, 1) := by decide +kernel
theorem dX3_pop_15 : decode mX3_pop.2.1 15 = .ok (.isub, 1) := by decide +kernel
theorem dX3_pop_16 : decode mX3_pop.2.1 16 = .ok (.putfield 37, 3) := by decide +kernel
theorem dX3_pop_19 : decode mX3_pop.2.1 19 = .ok (.aload_n 0, 1) := by decide +kernel
theorem dX3_pop_20 : decode mX3_pop.2.1 20 = .ok (.getfield 15, 3) := by decide +kernel
theorem dX3_pop_23 : decode mX3_pop.2.1 23 = .ok (.aload_n 0, 1) := by decide +kernel
theorem dX3_pop_24 : decode mX3_pop.2.1 24 = .ok (.getfield 37, 3) := by decide +kernel
theorem dX3_pop_27 : decode mX3_pop.2.1 27 = .ok (.iaload, 1) := by decide +kernel
theorem dX3_pop_28 : decode mX3_pop.2.1 28 = .ok (.ireturn, 1) := by decide +kernel
theorem dX3_takeOver_0 : decode mX3_takeOver.2.1 0 = .ok (.aload_n 0, 1) := by decide +kernel
theorem dX3_takeOver_1 : decode mX3_takeOver.2.1 1 = .ok (.iload_n 2, 1) := by decide +kernel
theorem dX3_takeOver_2 : decode mX3_takeOver.2.1 2 = .ok (.aload_n 1, 1) := by decide +kernel
theorem dX3_takeOver_3 : decode mX3_takeOver.2.1 3 = .ok (.arraylength, 1) := by decide +kernel
theorem dX3_takeOver_4 : decode mX3_takeOver.2.1 4 = .ok (.aload_n 0, 1) := by decide +kernel
theorem dX3_takeOver_5 : decode mX3_takeOver.2.1 5 = .ok (.getfield 9, 3) := by decide +kernel
theorem dX3_takeOver_8 : decode mX3_takeOver.2.1 8 = .ok (.arraylength, 1) := by decide +kernel
theorem dX3_takeOver_9 : decode mX3_takeOver.2.1 9 = .ok (.invokestatic 18, 3) := by decide +kernel
theorem dX3_takeOver_12 : decode mX3_takeOver.2.1 12 = .ok (.invokestatic 18, 3) := by decide +kernel
theorem dX3_takeOver_15 : decode mX3_takeOver.2.1 15 = .ok (.putfield 24, 3) := by decide +kernel
theorem dX3_takeOver_18 : decode mX3_takeOver.2.1 18 = .ok (.aload_n 1, 1) := by decide +kernel
theorem dX3_takeOver_19 : decode mX3_takeOver.2.1 19 = .ok (.iconst 0, 1) := by decide +kernel
theorem dX3_takeOver_20 : decode mX3_takeOver.2.1 20 = .ok (.aload_n 0, 1) := by decide +kernel
theorem dX3_takeOver_21 : decode mX3_takeOver.2.1 21 = .ok (.getfield 9, 3) := by decide +kernel
theorem dX3_takeOver_24 : decode mX3_takeOver.2.1 24 = .ok (.iconst 0, 1) := by decide +kernel
theorem dX3_takeOver_25 : decode mX3_takeOver.2.1 25 = .ok (.aload_n 0, 1) := by decide +kernel
theorem dX3_takeOver_26 : decode mX3_takeOver.2.1 26 = .ok (.getfield 24, 3) := by decide +kernel
theorem dX3_takeOver_29 : decode mX3_takeOver.2.1 29 = .ok (.invokestatic 28, 3) := by decide +kernel
theorem dX3_takeOver_32 : decode mX3_takeOver.2.1 32 = .ok (.aload_n 0, 1) := by decide +kernel
theorem dX3_takeOver_33 : decode mX3_takeOver.2.1 33 = .ok (.iload_n 3, 1) := by decide +kernel
theorem dX3_takeOver_34 : decode mX3_takeOver.2.1 34 = .ok (.putfield 34, 3) := by decide +kernel
theorem dX3_takeOver_37 : decode mX3_takeOver.2.1 37 = .ok (.return_, 1) := by decide +kernel
theorem dX3_held_0 : decode mX3_held.2.1 0 = .ok (.ldc2_w 69, 3) := by decide +kernel
theorem dX3_held_3 : decode mX3_held.2.1 3 = .ok (.ldc2_w 71, 3) := by decide +kernel
theorem dX3_held_6 : decode mX3_held.2.1 6 = .ok (.lload_n 0, 1) := by decide +kernel
theorem dX3_held_7 : decode mX3_held.2.1 7 = .ok (.invokestatic 73, 3) := by decide +kernel
theorem dX3_held_10 : decode mX3_held.2.1 10 = .ok (.invokestatic 76, 3) := by decide +kernel
theorem dX3_held_13 : decode mX3_held.2.1 13 = .ok (.l2i, 1) := by decide +kernel
theorem dX3_held_14 : decode mX3_held.2.1 14 = .ok (.ireturn, 1) := by decide +kernel
theorem dX3_joined_0 : decode mX3_joined.2.1 0 = .ok (.iload_n 0, 1) := by decide +kernel
theorem dX3_joined_1 : decode mX3_joined.2.1 1 = .ok (.lookupswitch 167 #[(7, 149), (42, 89), (43, 75), (45, 82), (47, 96), (60, 113), (61, 137), (62, 125)], 75) := by decide +kernel
theorem dX3_joined_76 : decode mX3_joined.2.1 76 = .ok (.lload_n 1, 1) := by decide +kernel
theorem dX3_joined_77 : decode mX3_joined.2.1 77 = .ok (.lload_n 3, 1) := by decide +kernel
theorem dX3_joined_78 : decode mX3_joined.2.1 78 = .ok (.ladd, 1) := by decide +kernel
theorem dX3_joined_79 : decode mX3_joined.2.1 79 = .ok (.invokestatic 65, 3) := by decide +kernel
theorem dX3_joined_82 : decode mX3_joined.2.1 82 = .ok (.ireturn, 1) := by decide +kernel
theorem dX3_joined_83 : decode mX3_joined.2.1 83 = .ok (.lload_n 1, 1) := by decide +kernel
theorem dX3_joined_84 : decode mX3_joined.2.1 84 = .ok (.lload_n 3, 1) := by decide +kernel
theorem dX3_joined_85 : decode mX3_joined.2.1 85 = .ok (.lsub, 1) := by decide +kernel
theorem dX3_joined_86 : decode mX3_joined.2.1 86 = .ok (.invokestatic 65, 3) := by decide +kernel
theorem dX3_joined_89 : decode mX3_joined.2.1 89 = .ok (.ireturn, 1) := by decide +kernel
theorem dX3_joined_90 : decode mX3_joined.2.1 90 = .ok (.lload_n 1, 1) := by decide +kernel
theorem dX3_joined_91 : decode mX3_joined.2.1 91 = .ok (.lload_n 3, 1) := by decide +kernel
theorem dX3_joined_92 : decode mX3_joined.2.1 92 = .ok (.lmul, 1) := by decide +kernel
theorem dX3_joined_93 : decode mX3_joined.2.1 93 = .ok (.invokestatic 65, 3) := by decide +kernel
theorem dX3_joined_96 : decode mX3_joined.2.1 96 = .ok (.ireturn, 1) := by decide +kernel
theorem dX3_joined_97 : decode mX3_joined.2.1 97 = .ok (.lload_n 3, 1) := by decide +kernel
theorem dX3_joined_98 : decode mX3_joined.2.1 98 = .ok (.lconst 0, 1) := by decide +kernel
theorem dX3_joined_99 : decode mX3_joined.2.1 99 = .ok (.lcmp, 1) := by decide +kernel
theorem dX3_joined_100 : decode mX3_joined.2.1 100 = .ok (.ifCond .ne 7, 3) := by decide +kernel
theorem dX3_joined_103 : decode mX3_joined.2.1 103 = .ok (.iconst 0, 1) := by decide +kernel
theorem dX3_joined_104 : decode mX3_joined.2.1 104 = .ok (.goto 9, 3) := by decide +kernel
theorem dX3_joined_107 : decode mX3_joined.2.1 107 = .ok (.lload_n 1, 1) := by decide +kernel
theorem dX3_joined_108 : decode mX3_joined.2.1 108 = .ok (.lload_n 3, 1) := by decide +kernel
theorem dX3_joined_109 : decode mX3_joined.2.1 109 = .ok (.ldiv, 1) := by decide +kernel
theorem dX3_joined_110 : decode mX3_joined.2.1 110 = .ok (.invokestatic 65, 3) := by decide +kernel
theorem dX3_joined_113 : decode mX3_joined.2.1 113 = .ok (.ireturn, 1) := by decide +kernel
theorem dX3_joined_114 : decode mX3_joined.2.1 114 = .ok (.lload_n 1, 1) := by decide +kernel
theorem dX3_joined_115 : decode mX3_joined.2.1 115 = .ok (.lload_n 3, 1) := by decide +kernel
theorem dX3_joined_116 : decode mX3_joined.2.1 116 = .ok (.lcmp, 1) := by decide +kernel
theorem dX3_joined_117 : decode mX3_joined.2.1 117 = .ok (.ifCond .ge 7, 3) := by decide +kernel
theorem dX3_joined_120 : decode mX3_joined.2.1 120 = .ok (.iconst 1, 1) := by decide +kernel
theorem dX3_joined_121 : decode mX3_joined.2.1 121 = .ok (.goto 4, 3) := by decide +kernel
theorem dX3_joined_124 : decode mX3_joined.2.1 124 = .ok (.iconst 0, 1) := by decide +kernel
theorem dX3_joined_125 : decode mX3_joined.2.1 125 = .ok (.ireturn, 1) := by decide +kernel
theorem dX3_joined_126 : decode mX3_joined.2.1 126 = .ok (.lload_n 1, 1) := by decide +kernel
theorem dX3_joined_127 : decode mX3_joined.2.1 127 = .ok (.lload_n 3, 1) := by decide +kernel
theorem dX3_joined_128 : decode mX3_joined.2.1 128 = .ok (.lcmp, 1) := by decide +kernel
theorem dX3_joined_129 : decode mX3_joined.2.1 129 = .ok (.ifCond .le 7, 3) := by decide +kernel
theorem dX3_joined_132 : decode mX3_joined.2.1 132 = .ok (.iconst 1, 1) := by decide +kernel
theorem dX3_joined_133 : decode mX3_joined.2.1 133 = .ok (.goto 4, 3) := by decide +kernel
theorem dX3_joined_136 : decode mX3_joined.2.1 136 = .ok (.iconst 0, 1) := by decide +kernel
theorem dX3_joined_137 : decode mX3_joined.2.1 137 = .ok (.ireturn, 1) := by decide +kernel
theorem dX3_joined_138 : decode mX3_joined.2.1 138 = .ok (.lload_n 1, 1) := by decide +kernel
theorem dX3_joined_139 : decode mX3_joined.2.1 139 = .ok (.lload_n 3, 1) := by decide +kernel
theorem dX3_joined_140 : decode mX3_joined.2.1 140 = .ok (.lcmp, 1) := by decide +kernel
theorem dX3_joined_141 : decode mX3_joined.2.1 141 = .ok (.ifCond .ne 7, 3) := by decide +kernel
theorem dX3_joined_144 : decode mX3_joined.2.1 144 = .ok (.iconst 1, 1) := by decide +kernel
theorem dX3_joined_145 : decode mX3_joined.2.1 145 = .ok (.goto 4, 3) := by decide +kernel
theorem dX3_joined_148 : decode mX3_joined.2.1 148 = .ok (.iconst 0, 1) := by decide +kernel
theorem dX3_joined_149 : decode mX3_joined.2.1 149 = .ok (.ireturn, 1) := by decide +kernel
theorem dX3_joined_150 : decode mX3_joined.2.1 150 = .ok (.lload_n 1, 1) := by decide +kernel
theorem dX3_joined_151 : decode mX3_joined.2.1 151 = .ok (.lconst 0, 1) := by decide +kernel
theorem dX3_joined_152 : decode mX3_joined.2.1 152 = .ok (.lcmp, 1) := by decide +kernel
theorem dX3_joined_153 : decode mX3_joined.2.1 153 = .ok (.ifCond .eq 13, 3) := by decide +kernel
theorem dX3_joined_156 : decode mX3_joined.2.1 156 = .ok (.lload_n 3, 1) := by decide +kernel
theorem dX3_joined_157 : decode mX3_joined.2.1 157 = .ok (.lconst 0, 1) := by decide +kernel
theorem dX3_joined_158 : decode mX3_joined.2.1 158 = .ok (.lcmp, 1) := by decide +kernel
theorem dX3_joined_159 : decode mX3_joined.2.1 159 = .ok (.ifCond .eq 7, 3) := by decide +kernel
theorem dX3_joined_162 : decode mX3_joined.2.1 162 = .ok (.iconst 1, 1) := by decide +kernel
theorem dX3_joined_163 : decode mX3_joined.2.1 163 = .ok (.goto 4, 3) := by decide +kernel
theorem dX3_joined_166 : decode mX3_joined.2.1 166 = .ok (.iconst 0, 1) := by decide +kernel
theorem dX3_joined_167 : decode mX3_joined.2.1 167 = .ok (.ireturn, 1) := by decide +kernel
theorem dX3_joined_168 : decode mX3_joined.2.1 168 = .ok (.lload_n 1, 1) := by decide +kernel
theorem dX3_joined_169 : decode mX3_joined.2.1 169 = .ok (.lconst 0, 1) := by decide +kernel
theorem dX3_joined_170 : decode mX3_joined.2.1 170 = .ok (.lcmp, 1) := by decide +kernel
theorem dX3_joined_171 : decode mX3_joined.2.1 171 = .ok (.ifCond .ne 9, 3) := by decide +kernel
theorem dX3_joined_174 : decode mX3_joined.2.1 174 = .ok (.lload_n 3, 1) := by decide +kernel
theorem dX3_joined_175 : decode mX3_joined.2.1 175 = .ok (.lconst 0, 1) := by decide +kernel
theorem dX3_joined_176 : decode mX3_joined.2.1 176 = .ok (.lcmp, 1) := by decide +kernel
theorem dX3_joined_177 : decode mX3_joined.2.1 177 = .ok (.ifCond .eq 7, 3) := by decide +kernel
theorem dX3_joined_180 : decode mX3_joined.2.1 180 = .ok (.iconst 1, 1) := by decide +kernel
theorem dX3_joined_181 : decode mX3_joined.2.1 181 = .ok (.goto 4, 3) := by decide +kernel
theorem dX3_joined_184 : decode mX3_joined.2.1 184 = .ok (.iconst 0, 1) := by decide +kernel
theorem dX3_joined_185 : decode mX3_joined.2.1 185 = .ok (.ireturn, 1) := by decide +kernel
theorem dX3_apply_0 : decode mX3_apply.2.1 0 = .ok (.iload_n 1, 1) := by decide +kernel
theorem dX3_apply_1 : decode mX3_apply.2.1 1 = .ok (.bipush 9, 2) := by decide +kernel
theorem dX3_apply_3 : decode mX3_apply.2.1 3 = .ok (.isub, 1) := by decide +kernel
theorem dX3_apply_4 : decode mX3_apply.2.1 4 = .ok (.istore_n 3, 1) := by decide +kernel
theorem dX3_apply_5 : decode mX3_apply.2.1 5 = .ok (.iload_n 1, 1) := by decide +kernel
theorem dX3_apply_6 : decode mX3_apply.2.1 6 = .ok (.bipush 8, 2) := by decide +kernel
theorem dX3_apply_8 : decode mX3_apply.2.1 8 = .ok (.if_icmp .ne 22, 3) := by decide +kernel
theorem dX3_apply_11 : decode mX3_apply.2.1 11 = .ok (.aload_n 0, 1) := by decide +kernel
theorem dX3_apply_12 : decode mX3_apply.2.1 12 = .ok (.aload_n 0, 1) := by decide +kernel
theorem dX3_apply_13 : decode mX3_apply.2.1 13 = .ok (.invokevirtual 47, 3) := by decide +kernel
theorem dX3_apply_16 : decode mX3_apply.2.1 16 = .ok (.ifCond .ne 7, 3) := by decide +kernel
theorem dX3_apply_19 : decode mX3_apply.2.1 19 = .ok (.iconst 1, 1) := by decide +kernel
theorem dX3_apply_20 : decode mX3_apply.2.1 20 = .ok (.goto 4, 3) := by decide +kernel
theorem dX3_apply_23 : decode mX3_apply.2.1 23 = .ok (.iconst 0, 1) := by decide +kernel
theorem dX3_apply_24 : decode mX3_apply.2.1 24 = .ok (.invokevirtual 43, 3) := by decide +kernel
theorem dX3_apply_27 : decode mX3_apply.2.1 27 = .ok (.goto 55, 3) := by decide +kernel
theorem dX3_apply_30 : decode mX3_apply.2.1 30 = .ok (.iload_n 3, 1) := by decide +kernel
theorem dX3_apply_31 : decode mX3_apply.2.1 31 = .ok (.ifCond .lt 25, 3) := by decide +kernel
theorem dX3_apply_34 : decode mX3_apply.2.1 34 = .ok (.iload_n 3, 1) := by decide +kernel
theorem dX3_apply_35 : decode mX3_apply.2.1 35 = .ok (.bipush 8, 2) := by decide +kernel
theorem dX3_apply_37 : decode mX3_apply.2.1 37 = .ok (.if_icmp .ge 19, 3) := by decide +kernel
theorem dX3_apply_40 : decode mX3_apply.2.1 40 = .ok (.iload_n 3, 1) := by decide +kernel
theorem dX3_apply_41 : decode mX3_apply.2.1 41 = .ok (.aload_n 2, 1) := by decide +kernel
theorem dX3_apply_42 : decode mX3_apply.2.1 42 = .ok (.arraylength, 1) := by decide +kernel
theorem dX3_apply_43 : decode mX3_apply.2.1 43 = .ok (.if_icmp .ge 13, 3) := by decide +kernel
theorem dX3_apply_46 : decode mX3_apply.2.1 46 = .ok (.aload_n 0, 1) := by decide +kernel
theorem dX3_apply_47 : decode mX3_apply.2.1 47 = .ok (.aload_n 2, 1) := by decide +kernel
theorem dX3_apply_48 : decode mX3_apply.2.1 48 = .ok (.iload_n 3, 1) := by decide +kernel
theorem dX3_apply_49 : decode mX3_apply.2.1 49 = .ok (.iaload, 1) := by decide +kernel
theorem dX3_apply_50 : decode mX3_apply.2.1 50 = .ok (.invokevirtual 43, 3) := by decide +kernel
theorem dX3_apply_53 : decode mX3_apply.2.1 53 = .ok (.goto 29, 3) := by decide +kernel
theorem dX3_apply_56 : decode mX3_apply.2.1 56 = .ok (.aload_n 0, 1) := by decide +kernel
theorem dX3_apply_57 : decode mX3_apply.2.1 57 = .ok (.invokevirtual 47, 3) := by decide +kernel
theorem dX3_apply_60 : decode mX3_apply.2.1 60 = .ok (.istore 4, 2) := by decide +kernel
theorem dX3_apply_62 : decode mX3_apply.2.1 62 = .ok (.aload_n 0, 1) := by decide +kernel
theorem dX3_apply_63 : decode mX3_apply.2.1 63 = .ok (.invokevirtual 47, 3) := by decide +kernel
theorem dX3_apply_66 : decode mX3_apply.2.1 66 = .ok (.istore 5, 2) := by decide +kernel
theorem dX3_apply_68 : decode mX3_apply.2.1 68 = .ok (.aload_n 0, 1) := by decide +kernel
theorem dX3_apply_69 : decode mX3_apply.2.1 69 = .ok (.iload_n 1, 1) := by decide +kernel
theorem dX3_apply_70 : decode mX3_apply.2.1 70 = .ok (.iload 5, 2) := by decide +kernel
theorem dX3_apply_72 : decode mX3_apply.2.1 72 = .ok (.i2l, 1) := by decide +kernel
theorem dX3_apply_73 : decode mX3_apply.2.1 73 = .ok (.iload 4, 2) := by decide +kernel
theorem dX3_apply_75 : decode mX3_apply.2.1 75 = .ok (.i2l, 1) := by decide +kernel
theorem dX3_apply_76 : decode mX3_apply.2.1 76 = .ok (.invokestatic 61, 3) := by decide +kernel
theorem dX3_apply_79 : decode mX3_apply.2.1 79 = .ok (.invokevirtual 43, 3) := by decide +kernel
theorem dX3_apply_82 : decode mX3_apply.2.1 82 = .ok (.return_, 1) := by decide +kernel
theorem dX3_decide_0 : decode mX3_decide.2.1 0 = .ok (.aload_n 0, 1) := by decide +kernel
theorem dX3_decide_1 : decode mX3_decide.2.1 1 = .ok (.iconst 0, 1) := by decide +kernel
theorem dX3_decide_2 : decode mX3_decide.2.1 2 = .ok (.putfield 37, 3) := by decide +kernel
theorem dX3_decide_5 : decode mX3_decide.2.1 5 = .ok (.aload_n 0, 1) := by decide +kernel
theorem dX3_decide_6 : decode mX3_decide.2.1 6 = .ok (.iconst 0, 1) := by decide +kernel
theorem dX3_decide_7 : decode mX3_decide.2.1 7 = .ok (.putfield 40, 3) := by decide +kernel
theorem dX3_decide_10 : decode mX3_decide.2.1 10 = .ok (.iconst 0, 1) := by decide +kernel
theorem dX3_decide_11 : decode mX3_decide.2.1 11 = .ok (.istore_n 2, 1) := by decide +kernel
theorem dX3_decide_12 : decode mX3_decide.2.1 12 = .ok (.iload_n 2, 1) := by decide +kernel
theorem dX3_decide_13 : decode mX3_decide.2.1 13 = .ok (.aload_n 0, 1) := by decide +kernel
theorem dX3_decide_14 : decode mX3_decide.2.1 14 = .ok (.getfield 24, 3) := by decide +kernel
theorem dX3_decide_17 : decode mX3_decide.2.1 17 = .ok (.if_icmp .ge 83, 3) := by decide +kernel
theorem dX3_decide_20 : decode mX3_decide.2.1 20 = .ok (.aload_n 0, 1) := by decide +kernel
theorem dX3_decide_21 : decode mX3_decide.2.1 21 = .ok (.getfield 9, 3) := by decide +kernel
theorem dX3_decide_24 : decode mX3_decide.2.1 24 = .ok (.iload_n 2, 1) := by decide +kernel
theorem dX3_decide_25 : decode mX3_decide.2.1 25 = .ok (.iaload, 1) := by decide +kernel
theorem dX3_decide_26 : decode mX3_decide.2.1 26 = .ok (.istore_n 3, 1) := by decide +kernel
theorem dX3_decide_27 : decode mX3_decide.2.1 27 = .ok (.iload_n 3, 1) := by decide +kernel
theorem dX3_decide_28 : decode mX3_decide.2.1 28 = .ok (.ifCond .lt 11, 3) := by decide +kernel
theorem dX3_decide_31 : decode mX3_decide.2.1 31 = .ok (.aload_n 0, 1) := by decide +kernel
theorem dX3_decide_32 : decode mX3_decide.2.1 32 = .ok (.iload_n 3, 1) := by decide +kernel
theorem dX3_decide_33 : decode mX3_decide.2.1 33 = .ok (.invokevirtual 43, 3) := by decide +kernel
theorem dX3_decide_36 : decode mX3_decide.2.1 36 = .ok (.goto 58, 3) := by decide +kernel
theorem dX3_decide_39 : decode mX3_decide.2.1 39 = .ok (.iload_n 3, 1) := by decide +kernel
theorem dX3_decide_40 : decode mX3_decide.2.1 40 = .ok (.bipush (-4), 2) := by decide +kernel
theorem dX3_decide_42 : decode mX3_decide.2.1 42 = .ok (.if_icmp .lt 45, 3) := by decide +kernel
theorem dX3_decide_45 : decode mX3_decide.2.1 45 = .ok (.aload_n 0, 1) := by decide +kernel
theorem dX3_decide_46 : decode mX3_decide.2.1 46 = .ok (.invokevirtual 47, 3) := by decide +kernel
theorem dX3_decide_49 : decode mX3_decide.2.1 49 = .ok (.istore 4, 2) := by decide +kernel
theorem dX3_decide_51 : decode mX3_decide.2.1 51 = .ok (.aload_n 0, 1) := by decide +kernel
theorem dX3_decide_52 : decode mX3_decide.2.1 52 = .ok (.aload_n 0, 1) := by decide +kernel
theorem dX3_decide_53 : decode mX3_decide.2.1 53 = .ok (.invokevirtual 47, 3) := by decide +kernel
theorem dX3_decide_56 : decode mX3_decide.2.1 56 = .ok (.putfield 51, 3) := by decide +kernel
theorem dX3_decide_59 : decode mX3_decide.2.1 59 = .ok (.aload_n 0, 1) := by decide +kernel
theorem dX3_decide_60 : decode mX3_decide.2.1 60 = .ok (.iload_n 3, 1) := by decide +kernel
theorem dX3_decide_61 : decode mX3_decide.2.1 61 = .ok (.ineg, 1) := by decide +kernel
theorem dX3_decide_62 : decode mX3_decide.2.1 62 = .ok (.iconst 1, 1) := by decide +kernel
theorem dX3_decide_63 : decode mX3_decide.2.1 63 = .ok (.isub, 1) := by decide +kernel
theorem dX3_decide_64 : decode mX3_decide.2.1 64 = .ok (.putfield 54, 3) := by decide +kernel
theorem dX3_decide_67 : decode mX3_decide.2.1 67 = .ok (.iload 4, 2) := by decide +kernel
theorem dX3_decide_69 : decode mX3_decide.2.1 69 = .ok (.ifCond .eq 5, 3) := by decide +kernel
theorem dX3_decide_72 : decode mX3_decide.2.1 72 = .ok (.iconst 1, 1) := by decide +kernel
theorem dX3_decide_73 : decode mX3_decide.2.1 73 = .ok (.ireturn, 1) := by decide +kernel
theorem dX3_decide_74 : decode mX3_decide.2.1 74 = .ok (.aload_n 0, 1) := by decide +kernel
theorem dX3_decide_75 : decode mX3_decide.2.1 75 = .ok (.dup, 1) := by decide +kernel
theorem dX3_decide_76 : decode mX3_decide.2.1 76 = .ok (.getfield 40, 3) := by decide +kernel
theorem dX3_decide_79 : decode mX3_decide.2.1 79 = .ok (.iconst 1, 1) := by decide +kernel
theorem dX3_decide_80 : decode mX3_decide.2.1 80 = .ok (.iadd, 1) := by decide +kernel
theorem dX3_decide_81 : decode mX3_decide.2.1 81 = .ok (.putfield 40, 3) := by decide +kernel
theorem dX3_decide_84 : decode mX3_decide.2.1 84 = .ok (.goto 10, 3) := by decide +kernel
theorem dX3_decide_87 : decode mX3_decide.2.1 87 = .ok (.aload_n 0, 1) := by decide +kernel
theorem dX3_decide_88 : decode mX3_decide.2.1 88 = .ok (.iload_n 3, 1) := by decide +kernel
theorem dX3_decide_89 : decode mX3_decide.2.1 89 = .ok (.ineg, 1) := by decide +kernel
theorem dX3_decide_90 : decode mX3_decide.2.1 90 = .ok (.aload_n 1, 1) := by decide +kernel
theorem dX3_decide_91 : decode mX3_decide.2.1 91 = .ok (.invokevirtual 57, 3) := by decide +kernel
theorem dX3_decide_94 : decode mX3_decide.2.1 94 = .ok (.iinc 2 1, 3) := by decide +kernel
theorem dX3_decide_97 : decode mX3_decide.2.1 97 = .ok (.goto (-85), 3) := by decide +kernel
theorem dX3_decide_100 : decode mX3_decide.2.1 100 = .ok (.iconst 0, 1) := by decide +kernel
theorem dX3_decide_101 : decode mX3_decide.2.1 101 = .ok (.ireturn, 1) := by decide +kernel
def w_X3_push (a1 : Int32) (M : am_I) (N : am_N) (post : am_I → am_N → Prop) : Prop :=
  ((64 ≤ (M (0, 0, 12) 4) → post M N) ∧ (¬ 64 ≤ (M (0, 0, 12) 4) → vp_in (M (0, 0, 12) 4) 64 ∧ post (am_u (am_u M (0, 0, 14) (M (0, 0, 12) 4).toNatClampNeg a1) (0, 0, 12) 4 (((am_u M (0, 0, 14) (M (0, 0, 12) 4).toNatClampNeg a1) (0, 0, 12) 4) + 1)) N))
set_option maxRecDepth 10000 in
theorem k_X3_push {d : Nat} {dm : List am_C} (h0 : am_d0 dm) {a1 : Int32} {M : am_I} {N : am_N} {post : am_I → am_N → Prop} (h : w_X3_push a1 M N post) : jg (d + 1) mX3_push dm 0 [(0, .inr (.inr (0, 0, 12))), (1, .inl a1)] [] M N (am_pv post) := by
  refine j_aload_n 0 dX3_push_0 rfl ?_
  refine j_getI dX3_push_1 fsRX3_37 (h0 12 (by decide)) rfl ?_
  refine j_bipush (v := 64) dX3_push_4 (by decide) ?_
  refine j_icmp_ge (tgt := 29) dX3_push_6 (by decide) (fun hc => ?_) (fun hc => ?_)
  · replace h := h.1 hc
    exact j_vret dX3_push_29 rfl ⟨rfl, h⟩
  · replace h := h.2 hc
    refine j_aload_n 0 dX3_push_9 rfl ?_
    refine j_getR (b := (0, 0, 14)) dX3_push_10 fsRX3_15 (h0 12 (by decide)) rfl rfl ?_
    refine j_aload_n 0 dX3_push_13 rfl ?_
    refine j_getI dX3_push_14 fsRX3_37 (h0 12 (by decide)) rfl ?_
    refine j_iload_n 1 dX3_push_17 rfl ?_
    obtain ⟨hq, h⟩ := h
    refine j_iast dX3_push_18 (h0 14 (by decide)) rfl hq ?_
    refine j_aload_n 0 dX3_push_19 rfl ?_
    refine j_dup dX3_push_20 rfl ?_
    refine j_getI dX3_push_21 fsRX3_37 (h0 12 (by decide)) rfl ?_
    refine j_iconst (v := 1) dX3_push_24 (by decide) ?_
    refine j_iadd dX3_push_25 ?_
    refine j_putI dX3_push_26 fwRX3_37 (h0 12 (by decide)) rfl ?_
    exact j_vret dX3_push_29 rfl ⟨rfl, h⟩
def w_X3_pop (M : am_I) (N : am_N) (post : Int32 → am_I → am_N → Prop) : Prop :=
  ((0 < (M (0, 0, 12) 4) → vp_in ((am_u M (0, 0, 12) 4 ((M (0, 0, 12) 4) - 1)) (0, 0, 12) 4) 64 ∧ post ((am_u M (0, 0, 12) 4 ((M (0, 0, 12) 4) - 1)) (0, 0, 14) ((am_u M (0, 0, 12) 4 ((M (0, 0, 12) 4) - 1)) (0, 0, 12) 4).toNatClampNeg) (am_u M (0, 0, 12) 4 ((M (0, 0, 12) 4) - 1)) N) ∧ (¬ 0 < (M (0, 0, 12) 4) → post 0 M N))
set_option maxRecDepth 10000 in
theorem k_X3_pop {d : Nat} {dm : List am_C} (h0 : am_d0 dm) {M : am_I} {N : am_N} {post : Int32 → am_I → am_N → Prop} (h : w_X3_pop M N post) : jg (d + 1) mX3_pop dm 0 [(0, .inr (.inr (0, 0, 12)))] [] M N (am_pi post) := by
  refine j_aload_n 0 dX3_pop_0 rfl ?_
  refine j_getI dX3_pop_1 fsRX3_37 (h0 12 (by decide)) rfl ?_
  refine j_if_gt (tgt := 9) dX3_pop_4 (by decide) (fun hc => ?_) (fun hc => ?_)
  · replace h := h.1 hc
    refine j_aload_n 0 dX3_pop_9 rfl ?_
    refine j_dup dX3_pop_10 rfl ?_
    refine j_getI dX3_pop_11 fsRX3_37 (h0 12 (by decide)) rfl ?_
    refine j_iconst (v := 1) dX3_pop_14 (by decide) ?_
    refine j_isub dX3_pop_15 ?_
    refine j_putI dX3_pop_16 fwRX3_37 (h0 12 (by decide)) rfl ?_
    refine j_aload_n 0 dX3_pop_19 rfl ?_
    refine j_getR (b := (0, 0, 14)) dX3_pop_20 fsRX3_15 (h0 12 (by decide)) rfl rfl ?_
    refine j_aload_n 0 dX3_pop_23 rfl ?_
    refine j_getI dX3_pop_24 fsRX3_37 (h0 12 (by decide)) rfl ?_
    obtain ⟨hq, h⟩ := h
    refine j_iald dX3_pop_27 (h0 14 (by decide)) rfl hq ?_
    exact j_iret dX3_pop_28 rfl ⟨_, rfl, h⟩
  · replace h := h.2 hc
    refine j_iconst (v := 0) dX3_pop_7 (by decide) ?_
    exact j_iret dX3_pop_8 rfl ⟨_, rfl, h⟩
def w_X3_takeOver (a1 : Int32) (a2 : Int32) (M : am_I) (N : am_N) (post : am_I → am_N → Prop) : Prop :=
  w_J9_min_7cf53 548 548 M N (fun zr1 zM2 zN3 => w_J9_min_7cf53 a1 zr1 zM2 zN3 (fun zr4 zM5 zN6 => (¬ (0 : Int32) < 0 ∧ ¬ (0 : Int32) < 0 ∧ ¬ ((am_u zM5 (0, 0, 12) 2 zr4) (0, 0, 12) 2) < 0 ∧ (0 : Int32).toNatClampNeg + ((am_u zM5 (0, 0, 12) 2 zr4) (0, 0, 12) 2).toNatClampNeg ≤ 548 ∧ (0 : Int32).toNatClampNeg + ((am_u zM5 (0, 0, 12) 2 zr4) (0, 0, 12) 2).toNatClampNeg ≤ 548) ∧ post (am_u (am_s (am_u zM5 (0, 0, 12) 2 zr4) (0, 0, 13) (va_cpy ((am_u zM5 (0, 0, 12) 2 zr4) (0, 0, 11)) ((am_u zM5 (0, 0, 12) 2 zr4) (0, 0, 13)) (0 : Int32).toNatClampNeg (0 : Int32).toNatClampNeg ((am_u zM5 (0, 0, 12) 2 zr4) (0, 0, 12) 2).toNatClampNeg)) (0, 0, 12) 3 a2) zN6))
set_option maxRecDepth 10000 in
theorem k_X3_takeOver {d : Nat} {dm : List am_C} (h0 : am_d0 dm) {a1 : Int32} {a2 : Int32} {M : am_I} {N : am_N} {post : am_I → am_N → Prop} (h : w_X3_takeOver a1 a2 M N post) : jg (d + 2) mX3_takeOver dm 0 [(0, .inr (.inr (0, 0, 12))), (1, .inr (.inr (0, 0, 11))), (2, .inl a1), (3, .inl a2)] [] M N (am_pv post) := by
  refine j_aload_n 0 dX3_takeOver_0 rfl ?_
  refine j_iload_n 2 dX3_takeOver_1 rfl ?_
  refine j_aload_n 1 dX3_takeOver_2 rfl ?_
  refine j_aleni (v := 548) dX3_takeOver_3 (h0 11 (by decide)) rfl (by decide) ?_
  refine j_aload_n 0 dX3_takeOver_4 rfl ?_
  refine j_getR (b := (0, 0, 13)) dX3_takeOver_5 fsRX3_9 (h0 12 (by decide)) rfl rfl ?_
  refine j_aleni (v := 548) dX3_takeOver_8 (h0 13 (by decide)) rfl (by decide) ?_
  refine j_invS (As := [.inl 548, .inl 548]) dX3_takeOver_9 msRX3_18 mbJ9_min_7cf53 rfl rfl (Nat.le_of_ble_eq_true rfl) (Nat.le_of_ble_eq_true rfl) (by omega) (k_J9_min_7cf53 (d := d + 0)  h) ?_
  rintro _ zM2 zN3 ⟨zr1, rfl, h⟩
  refine j_invS (As := [.inl a1, .inl zr1]) dX3_takeOver_12 msRX3_18 mbJ9_min_7cf53 rfl rfl (Nat.le_of_ble_eq_true rfl) (Nat.le_of_ble_eq_true rfl) (by omega) (k_J9_min_7cf53 (d := d + 0)  h) ?_
  rintro _ zM5 zN6 ⟨zr4, rfl, h⟩
  refine j_putI dX3_takeOver_15 fwRX3_24 (h0 12 (by decide)) rfl ?_
  refine j_aload_n 1 dX3_takeOver_18 rfl ?_
  refine j_iconst (v := 0) dX3_takeOver_19 (by decide) ?_
  refine j_aload_n 0 dX3_takeOver_20 rfl ?_
  refine j_getR (b := (0, 0, 13)) dX3_takeOver_21 fsRX3_9 (h0 12 (by decide)) rfl rfl ?_
  refine j_iconst (v := 0) dX3_takeOver_24 (by decide) ?_
  refine j_aload_n 0 dX3_takeOver_25 rfl ?_
  refine j_getI dX3_takeOver_26 fsRX3_24 (h0 12 (by decide)) rfl ?_
  obtain ⟨hq, h⟩ := h
  refine j_copy dX3_takeOver_29 (by decide) (h0 11 (by decide)) (h0 13 (by decide)) rfl rfl hq.1 hq.2.1 hq.2.2.1 hq.2.2.2.1 hq.2.2.2.2 (Nat.le_of_ble_eq_true rfl) (by omega) ?_
  refine j_aload_n 0 dX3_takeOver_32 rfl ?_
  refine j_iload_n 3 dX3_takeOver_33 rfl ?_
  refine j_putI dX3_takeOver_34 fwRX3_34 (h0 12 (by decide)) rfl ?_
  exact j_vret dX3_takeOver_37 rfl ⟨rfl, h⟩
def w_X3_held (a1 : Int64) (M : am_I) (N : am_N) (post : Int32 → am_I → am_N → Prop) : Prop :=
  w_J9_min_f86c9 1000000000 a1 M N (fun zr1 zM2 zN3 => w_J9_max_f86c9 (-1000000000) zr1 zM2 zN3 (fun zr4 zM5 zN6 => post zr4.toInt32 zM5 zN6))
set_option maxRecDepth 10000 in
theorem k_X3_held {d : Nat} {dm : List am_C}  {a1 : Int64} {M : am_I} {N : am_N} {post : Int32 → am_I → am_N → Prop} (h : w_X3_held a1 M N post) : jg (d + 2) mX3_held dm 0 [(0, .inr (.inl a1))] [] M N (am_pi post) := by
  refine j_ldc2 (v := (-1000000000)) dX3_held_0 cw_1298 ?_
  refine j_ldc2 (v := 1000000000) dX3_held_3 cw_1299 ?_
  refine j_lload_n 0 dX3_held_6 rfl ?_
  refine j_invS (As := [.inr (.inl 1000000000), .inr (.inl a1)]) dX3_held_7 msRX3_73 mbJ9_min_f86c9 rfl rfl (Nat.le_of_ble_eq_true rfl) (Nat.le_of_ble_eq_true rfl) (by omega) (k_J9_min_f86c9 (d := d + 0)  h) ?_
  rintro _ zM2 zN3 ⟨zr1, rfl, h⟩
  refine j_invS (As := [.inr (.inl (-1000000000)), .inr (.inl zr1)]) dX3_held_10 msRX3_76 mbJ9_max_f86c9 rfl rfl (Nat.le_of_ble_eq_true rfl) (Nat.le_of_ble_eq_true rfl) (by omega) (k_J9_max_f86c9 (d := d + 0)  h) ?_
  rintro _ zM5 zN6 ⟨zr4, rfl, h⟩
  refine j_l2i dX3_held_13 ?_
  exact j_iret dX3_held_14 rfl ⟨_, rfl, h⟩
def w_X3_joined (a1 : Int32) (a2 : Int64) (a3 : Int64) (M : am_I) (N : am_N) (post : Int32 → am_I → am_N → Prop) : Prop :=
  ((a1 = 7 → ((a2 = 0 → post 0 M N) ∧ (¬ a2 = 0 → ((a3 = 0 → post 0 M N) ∧ (¬ a3 = 0 → post 1 M N))))) ∧ (a1 = 42 → w_X3_held (a2 * a3) M N (fun zr1 zM2 zN3 => post zr1 zM2 zN3)) ∧ (a1 = 43 → w_X3_held (a2 + a3) M N (fun zr4 zM5 zN6 => post zr4 zM5 zN6)) ∧ (a1 = 45 → w_X3_held (a2 - a3) M N (fun zr7 zM8 zN9 => post zr7 zM8 zN9)) ∧ (a1 = 47 → ((¬ a3 = 0 → ¬ a3 = 0 ∧ w_X3_held (a2 / a3) M N (fun zr10 zM11 zN12 => post zr10 zM11 zN12)) ∧ (a3 = 0 → post 0 M N))) ∧ (a1 = 60 → ((a3 ≤ a2 → post 0 M N) ∧ (¬ a3 ≤ a2 → post 1 M N))) ∧ (a1 = 61 → ((¬ a2 = a3 → post 0 M N) ∧ (a2 = a3 → post 1 M N))) ∧ (a1 = 62 → ((a2 ≤ a3 → post 0 M N) ∧ (¬ a2 ≤ a3 → post 1 M N))) ∧ (¬ a1 = 7 → ¬ a1 = 42 → ¬ a1 = 43 → ¬ a1 = 45 → ¬ a1 = 47 → ¬ a1 = 60 → ¬ a1 = 61 → ¬ a1 = 62 → ((¬ a2 = 0 → post 1 M N) ∧ (a2 = 0 → ((a3 = 0 → post 0 M N) ∧ (¬ a3 = 0 → post 1 M N))))))
set_option maxRecDepth 10000 in
theorem k_X3_joined {d : Nat} {dm : List am_C}  {a1 : Int32} {a2 : Int64} {a3 : Int64} {M : am_I} {N : am_N} {post : Int32 → am_I → am_N → Prop} (h : w_X3_joined a1 a2 a3 M N post) : jg (d + 3) mX3_joined dm 0 [(0, .inl a1), (1, .inr (.inl a2)), (3, .inr (.inl a3))] [] M N (am_pi post) := by
  refine j_iload_n 0 dX3_joined_0 rfl ?_
  by_cases hs7 : a1 = 7
  · replace h := h.1 hs7
    refine j_lookup (tgt := 150) (off := 149) dX3_joined_1 (by decide) (by rw [hs7]; rfl) (by decide) ?_
    refine j_lload_n 1 dX3_joined_150 rfl ?_
    refine j_lconst (v := 0) dX3_joined_151 (by decide) ?_
    refine j_lcmp_eq (tgt := 166) dX3_joined_152 dX3_joined_153 (by decide) (fun hc => ?_) (fun hc => ?_)
    · replace h := h.1 hc
      refine j_iconst (v := 0) dX3_joined_166 (by decide) ?_
      exact j_iret dX3_joined_167 rfl ⟨_, rfl, h⟩
    · replace h := h.2 hc
      refine j_lload_n 2 dX3_joined_156 rfl ?_
      refine j_lconst (v := 0) dX3_joined_157 (by decide) ?_
      refine j_lcmp_eq (tgt := 166) dX3_joined_158 dX3_joined_159 (by decide) (fun hc => ?_) (fun hc => ?_)
      · replace h := h.1 hc
        refine j_iconst (v := 0) dX3_joined_166 (by decide) ?_
        exact j_iret dX3_joined_167 rfl ⟨_, rfl, h⟩
      · replace h := h.2 hc
        refine j_iconst (v := 1) dX3_joined_162 (by decide) ?_
        refine j_goto (tgt := 167) dX3_joined_163 (by decide) ?_
        exact j_iret dX3_joined_167 rfl ⟨_, rfl, h⟩
  by_cases hs42 : a1 = 42
  · replace h := h.2.1 hs42
    refine j_lookup (tgt := 90) (off := 89) dX3_joined_1 (by decide) (by rw [hs42]; rfl) (by decide) ?_
    refine j_lload_n 1 dX3_joined_90 rfl ?_
    refine j_lload_n 2 dX3_joined_91 rfl ?_
    refine j_lmul dX3_joined_92 ?_
    refine j_invS (As := [.inr (.inl (a2 * a3))]) dX3_joined_93 msRX3_65 mbX3_held rfl rfl (Nat.le_of_ble_eq_true rfl) (Nat.le_of_ble_eq_true rfl) (by omega) (k_X3_held (d := d + 0)  h) ?_
    rintro _ zM2 zN3 ⟨zr1, rfl, h⟩
    exact j_iret dX3_joined_96 rfl ⟨_, rfl, h⟩
  by_cases hs43 : a1 = 43
  · replace h := h.2.2.1 hs43
    refine j_lookup (tgt := 76) (off := 75) dX3_joined_1 (by decide) (by rw [hs43]; rfl) (by decide) ?_
    refine j_lload_n 1 dX3_joined_76 rfl ?_
    refine j_lload_n 2 dX3_joined_77 rfl ?_
    refine j_ladd dX3_joined_78 ?_
    refine j_invS (As := [.inr (.inl (a2 + a3))]) dX3_joined_79 msRX3_65 mbX3_held rfl rfl (Nat.le_of_ble_eq_true rfl) (Nat.le_of_ble_eq_true rfl) (by omega) (k_X3_held (d := d + 0)  h) ?_
    rintro _ zM5 zN6 ⟨zr4, rfl, h⟩
    exact j_iret dX3_joined_82 rfl ⟨_, rfl, h⟩
  by_cases hs45 : a1 = 45
  · replace h := h.2.2.2.1 hs45
    refine j_lookup (tgt := 83) (off := 82) dX3_joined_1 (by decide) (by rw [hs45]; rfl) (by decide) ?_
    refine j_lload_n 1 dX3_joined_83 rfl ?_
    refine j_lload_n 2 dX3_joined_84 rfl ?_
    refine j_lsub dX3_joined_85 ?_
    refine j_invS (As := [.inr (.inl (a2 - a3))]) dX3_joined_86 msRX3_65 mbX3_held rfl rfl (Nat.le_of_ble_eq_true rfl) (Nat.le_of_ble_eq_true rfl) (by omega) (k_X3_held (d := d + 0)  h) ?_
    rintro _ zM8 zN9 ⟨zr7, rfl, h⟩
    exact j_iret dX3_joined_89 rfl ⟨_, rfl, h⟩
  by_cases hs47 : a1 = 47
  · replace h := h.2.2.2.2.1 hs47
    refine j_lookup (tgt := 97) (off := 96) dX3_joined_1 (by decide) (by rw [hs47]; rfl) (by decide) ?_
    refine j_lload_n 2 dX3_joined_97 rfl ?_
    refine j_lconst (v := 0) dX3_joined_98 (by decide) ?_
    refine j_lcmp_ne (tgt := 107) dX3_joined_99 dX3_joined_100 (by decide) (fun hc => ?_) (fun hc => ?_)
    · replace h := h.1 hc
      refine j_lload_n 1 dX3_joined_107 rfl ?_
      refine j_lload_n 2 dX3_joined_108 rfl ?_
      obtain ⟨hq, h⟩ := h
      refine j_ldiv dX3_joined_109 hq ?_
      refine j_invS (As := [.inr (.inl (a2 / a3))]) dX3_joined_110 msRX3_65 mbX3_held rfl rfl (Nat.le_of_ble_eq_true rfl) (Nat.le_of_ble_eq_true rfl) (by omega) (k_X3_held (d := d + 0)  h) ?_
      rintro _ zM11 zN12 ⟨zr10, rfl, h⟩
      exact j_iret dX3_joined_113 rfl ⟨_, rfl, h⟩
    · replace h := h.2 hc
      refine j_iconst (v := 0) dX3_joined_103 (by decide) ?_
      refine j_goto (tgt := 113) dX3_joined_104 (by decide) ?_
      exact j_iret dX3_joined_113 rfl ⟨_, rfl, h⟩
  by_cases hs60 : a1 = 60
  · replace h := h.2.2.2.2.2.1 hs60
    refine j_lookup (tgt := 114) (off := 113) dX3_joined_1 (by decide) (by rw [hs60]; rfl) (by decide) ?_
    refine j_lload_n 1 dX3_joined_114 rfl ?_
    refine j_lload_n 2 dX3_joined_115 rfl ?_
    refine j_lcmp_ge (tgt := 124) dX3_joined_116 dX3_joined_117 (by decide) (fun hc => ?_) (fun hc => ?_)
    · replace h := h.1 hc
      refine j_iconst (v := 0) dX3_joined_124 (by decide) ?_
      exact j_iret dX3_joined_125 rfl ⟨_, rfl, h⟩
    · replace h := h.2 hc
      refine j_iconst (v := 1) dX3_joined_120 (by decide) ?_
      refine j_goto (tgt := 125) dX3_joined_121 (by decide) ?_
      exact j_iret dX3_joined_125 rfl ⟨_, rfl, h⟩
  by_cases hs61 : a1 = 61
  · replace h := h.2.2.2.2.2.2.1 hs61
    refine j_lookup (tgt := 138) (off := 137) dX3_joined_1 (by decide) (by rw [hs61]; rfl) (by decide) ?_
    refine j_lload_n 1 dX3_joined_138 rfl ?_
    refine j_lload_n 2 dX3_joined_139 rfl ?_
    refine j_lcmp_ne (tgt := 148) dX3_joined_140 dX3_joined_141 (by decide) (fun hc => ?_) (fun hc => ?_)
    · replace h := h.1 hc
      refine j_iconst (v := 0) dX3_joined_148 (by decide) ?_
      exact j_iret dX3_joined_149 rfl ⟨_, rfl, h⟩
    · replace h := h.2 hc
      refine j_iconst (v := 1) dX3_joined_144 (by decide) ?_
      refine j_goto (tgt := 149) dX3_joined_145 (by decide) ?_
      exact j_iret dX3_joined_149 rfl ⟨_, rfl, h⟩
  by_cases hs62 : a1 = 62
  · replace h := h.2.2.2.2.2.2.2.1 hs62
    refine j_lookup (tgt := 126) (off := 125) dX3_joined_1 (by decide) (by rw [hs62]; rfl) (by decide) ?_
    refine j_lload_n 1 dX3_joined_126 rfl ?_
    refine j_lload_n 2 dX3_joined_127 rfl ?_
    refine j_lcmp_le (tgt := 136) dX3_joined_128 dX3_joined_129 (by decide) (fun hc => ?_) (fun hc => ?_)
    · replace h := h.1 hc
      refine j_iconst (v := 0) dX3_joined_136 (by decide) ?_
      exact j_iret dX3_joined_137 rfl ⟨_, rfl, h⟩
    · replace h := h.2 hc
      refine j_iconst (v := 1) dX3_joined_132 (by decide) ?_
      refine j_goto (tgt := 137) dX3_joined_133 (by decide) ?_
      exact j_iret dX3_joined_137 rfl ⟨_, rfl, h⟩
  replace h := h.2.2.2.2.2.2.2.2 hs7 hs42 hs43 hs45 hs47 hs60 hs61 hs62
  refine j_lookup (tgt := 168) (off := 167) dX3_joined_1 (by decide) (by show Op.lookupswitch.offset [(7, 149), (42, 89), (43, 75), (45, 82), (47, 96), (60, 113), (61, 137), (62, 125)] 167 _ = _; rw [lv_osw (a := 7) hs7 (by decide)]; rw [lv_osw (a := 42) hs42 (by decide)]; rw [lv_osw (a := 43) hs43 (by decide)]; rw [lv_osw (a := 45) hs45 (by decide)]; rw [lv_osw (a := 47) hs47 (by decide)]; rw [lv_osw (a := 60) hs60 (by decide)]; rw [lv_osw (a := 61) hs61 (by decide)]; rw [lv_osw (a := 62) hs62 (by decide)]; rfl) (by decide) ?_
  refine j_lload_n 1 dX3_joined_168 rfl ?_
  refine j_lconst (v := 0) dX3_joined_169 (by decide) ?_
  refine j_lcmp_ne (tgt := 180) dX3_joined_170 dX3_joined_171 (by decide) (fun hc => ?_) (fun hc => ?_)
  · replace h := h.1 hc
    refine j_iconst (v := 1) dX3_joined_180 (by decide) ?_
    refine j_goto (tgt := 185) dX3_joined_181 (by decide) ?_
    exact j_iret dX3_joined_185 rfl ⟨_, rfl, h⟩
  · replace h := h.2 hc
    refine j_lload_n 2 dX3_joined_174 rfl ?_
    refine j_lconst (v := 0) dX3_joined_175 (by decide) ?_
    refine j_lcmp_eq (tgt := 184) dX3_joined_176 dX3_joined_177 (by decide) (fun hc => ?_) (fun hc => ?_)
    · replace h := h.1 hc
      refine j_iconst (v := 0) dX3_joined_184 (by decide) ?_
      exact j_iret dX3_joined_185 rfl ⟨_, rfl, h⟩
    · replace h := h.2 hc
      refine j_iconst (v := 1) dX3_joined_180 (by decide) ?_
      refine j_goto (tgt := 185) dX3_joined_181 (by decide) ?_
      exact j_iret dX3_joined_185 rfl ⟨_, rfl, h⟩
def w_X3_apply_p56 (post : am_I → am_N → Prop) (l1 : Int32) (M : am_I) (N : am_N) : Prop :=
  w_X3_pop M N (fun zr1 zM2 zN3 => w_X3_pop zM2 zN3 (fun zr4 zM5 zN6 => w_X3_joined l1 zr4.toInt64 zr1.toInt64 zM5 zN6 (fun zr7 zM8 zN9 => w_X3_push zr7 zM8 zN9 (fun zM10 zN11 => post zM10 zN11))))
set_option maxRecDepth 10000 in
theorem k_X3_apply_p56 {d : Nat} {dm : List am_C} (h0 : am_d0 dm) {post : am_I → am_N → Prop} (l1 : Int32) (M : am_I) (N : am_N) (h : w_X3_apply_p56 post l1 M N) : jg (d + 4) mX3_apply dm 56 [(0, .inr (.inr (0, 0, 12))), (1, .inl l1)] [] M N (am_pv post) := by
  refine j_aload_n 0 dX3_apply_56 rfl ?_
  refine j_invV (As := []) dX3_apply_57 msRX3_47 mbX3_pop rfl rfl (Nat.le_of_ble_eq_true rfl) (Nat.le_of_ble_eq_true rfl) (by omega) (h0 12 (by decide)) rfl rfl (k_X3_pop (d := d + 2) h0 h) ?_
  rintro _ zM2 zN3 ⟨zr1, rfl, h⟩
  refine j_istore dX3_apply_60 (by decide) rfl ?_
  refine j_aload_n 1 dX3_apply_62 rfl ?_
  refine j_invV (As := []) dX3_apply_63 msRX3_47 mbX3_pop rfl rfl (Nat.le_of_ble_eq_true rfl) (Nat.le_of_ble_eq_true rfl) (by omega) (h0 12 (by decide)) rfl rfl (k_X3_pop (d := d + 2) h0 h) ?_
  rintro _ zM5 zN6 ⟨zr4, rfl, h⟩
  refine j_istore dX3_apply_66 (by decide) rfl ?_
  refine j_aload_n 2 dX3_apply_68 rfl ?_
  refine j_iload_n 3 dX3_apply_69 rfl ?_
  refine j_iload 0 dX3_apply_70 rfl ?_
  refine j_i2l dX3_apply_72 ?_
  refine j_iload 1 dX3_apply_73 rfl ?_
  refine j_i2l dX3_apply_75 ?_
  refine j_invS (As := [.inl l1, .inr (.inl zr4.toInt64), .inr (.inl zr1.toInt64)]) dX3_apply_76 msRX3_61 mbX3_joined rfl rfl (Nat.le_of_ble_eq_true rfl) (Nat.le_of_ble_eq_true rfl) (by omega) (k_X3_joined (d := d + 0)  h) ?_
  rintro _ zM8 zN9 ⟨zr7, rfl, h⟩
  refine j_invV (As := [.inl zr7]) dX3_apply_79 msRX3_43 mbX3_push rfl rfl (Nat.le_of_ble_eq_true rfl) (Nat.le_of_ble_eq_true rfl) (by omega) (h0 12 (by decide)) rfl rfl (k_X3_push (d := d + 2) h0 h) ?_
  rintro _ zM10 zN11 ⟨rfl, h⟩
  exact j_vret dX3_apply_82 rfl ⟨rfl, h⟩
def w_X3_apply_p24 (post : am_I → am_N → Prop) (s0 : Int32) (M : am_I) (N : am_N) : Prop :=
  w_X3_push s0 M N (fun zM1 zN2 => post zM1 zN2)
set_option maxRecDepth 10000 in
theorem k_X3_apply_p24 {d : Nat} {dm : List am_C} (h0 : am_d0 dm) {post : am_I → am_N → Prop} (s0 : Int32) (M : am_I) (N : am_N) (h : w_X3_apply_p24 post s0 M N) : jg (d + 4) mX3_apply dm 24 [] [.inl s0, .inr (.inr (0, 0, 12))] M N (am_pv post) := by
  refine j_invV (As := [.inl s0]) dX3_apply_24 msRX3_43 mbX3_push rfl rfl (Nat.le_of_ble_eq_true rfl) (Nat.le_of_ble_eq_true rfl) (by omega) (h0 12 (by decide)) rfl rfl (k_X3_push (d := d + 2) h0 h) ?_
  rintro _ zM1 zN2 ⟨rfl, h⟩
  refine j_goto (tgt := 82) dX3_apply_27 (by decide) ?_
  exact j_vret dX3_apply_82 rfl ⟨rfl, h⟩
def w_X3_apply (a1 : Int32) (M : am_I) (N : am_N) (post : am_I → am_N → Prop) : Prop :=
  ((¬ a1 = 8 → (((a1 - 9) < 0 → w_X3_apply_p56 post a1 M N) ∧ (¬ (a1 - 9) < 0 → ((8 ≤ (a1 - 9) → w_X3_apply_p56 post a1 M N) ∧ (¬ 8 ≤ (a1 - 9) → ((8 ≤ (a1 - 9) → w_X3_apply_p56 post a1 M N) ∧ (¬ 8 ≤ (a1 - 9) → vp_in (a1 - 9) 8 ∧ w_X3_push (M (0, 0, 16) (a1 - 9).toNatClampNeg) M N (fun zM1 zN2 => post zM1 zN2)))))))) ∧ (a1 = 8 → w_X3_pop M N (fun zr3 zM4 zN5 => ((¬ zr3 = 0 → w_X3_apply_p24 post 0 zM4 zN5) ∧ (zr3 = 0 → w_X3_apply_p24 post 1 zM4 zN5)))))
set_option maxRecDepth 10000 in
theorem k_X3_apply {d : Nat} {dm : List am_C} (h0 : am_d0 dm) {a1 : Int32} {M : am_I} {N : am_N} {post : am_I → am_N → Prop} (h : w_X3_apply a1 M N post) : jg (d + 4) mX3_apply dm 0 [(0, .inr (.inr (0, 0, 12))), (1, .inl a1), (2, .inr (.inr (0, 0, 16)))] [] M N (am_pv post) := by
  refine j_iload_n 1 dX3_apply_0 rfl ?_
  refine j_bipush (v := 9) dX3_apply_1 (by decide) ?_
  refine j_isub dX3_apply_3 ?_
  refine j_istore_n dX3_apply_4 (by decide) rfl ?_
  refine j_iload_n 2 dX3_apply_5 rfl ?_
  refine j_bipush (v := 8) dX3_apply_6 (by decide) ?_
  refine j_icmp_ne (tgt := 30) dX3_apply_8 (by decide) (fun hc => ?_) (fun hc => ?_)
  · replace h := h.1 hc
    refine j_iload_n 0 dX3_apply_30 rfl ?_
    refine j_if_lt (tgt := 56) dX3_apply_31 (by decide) (fun hc => ?_) (fun hc => ?_)
    · replace h := h.1 hc
      refine j_sub [1, 2] rfl ?_
      exact k_X3_apply_p56 h0 _ _ _ h
    · replace h := h.2 hc
      refine j_iload_n 0 dX3_apply_34 rfl ?_
      refine j_bipush (v := 8) dX3_apply_35 (by decide) ?_
      refine j_icmp_ge (tgt := 56) dX3_apply_37 (by decide) (fun hc => ?_) (fun hc => ?_)
      · replace h := h.1 hc
        refine j_sub [1, 2] rfl ?_
        exact k_X3_apply_p56 h0 _ _ _ h
      · replace h := h.2 hc
        refine j_iload_n 0 dX3_apply_40 rfl ?_
        refine j_aload_n 3 dX3_apply_41 rfl ?_
        refine j_aleni (v := 8) dX3_apply_42 (h0 16 (by decide)) rfl (by decide) ?_
        refine j_icmp_ge (tgt := 56) dX3_apply_43 (by decide) (fun hc => ?_) (fun hc => ?_)
        · replace h := h.1 hc
          refine j_sub [1, 2] rfl ?_
          exact k_X3_apply_p56 h0 _ _ _ h
        · replace h := h.2 hc
          refine j_aload_n 1 dX3_apply_46 rfl ?_
          refine j_aload_n 3 dX3_apply_47 rfl ?_
          refine j_iload_n 0 dX3_apply_48 rfl ?_
          obtain ⟨hq, h⟩ := h
          refine j_iald dX3_apply_49 (h0 16 (by decide)) rfl hq ?_
          refine j_invV (As := [.inl (M (0, 0, 16) (a1 - 9).toNatClampNeg)]) dX3_apply_50 msRX3_43 mbX3_push rfl rfl (Nat.le_of_ble_eq_true rfl) (Nat.le_of_ble_eq_true rfl) (by omega) (h0 12 (by decide)) rfl rfl (k_X3_push (d := d + 2) h0 h) ?_
          rintro _ zM1 zN2 ⟨rfl, h⟩
          refine j_goto (tgt := 82) dX3_apply_53 (by decide) ?_
          exact j_vret dX3_apply_82 rfl ⟨rfl, h⟩
  · replace h := h.2 hc
    refine j_aload_n 1 dX3_apply_11 rfl ?_
    refine j_aload_n 1 dX3_apply_12 rfl ?_
    refine j_invV (As := []) dX3_apply_13 msRX3_47 mbX3_pop rfl rfl (Nat.le_of_ble_eq_true rfl) (Nat.le_of_ble_eq_true rfl) (by omega) (h0 12 (by decide)) rfl rfl (k_X3_pop (d := d + 2) h0 h) ?_
    rintro _ zM4 zN5 ⟨zr3, rfl, h⟩
    refine j_if_ne (tgt := 23) dX3_apply_16 (by decide) (fun hc => ?_) (fun hc => ?_)
    · replace h := h.1 hc
      refine j_iconst (v := 0) dX3_apply_23 (by decide) ?_
      refine j_sub [] rfl ?_
      exact k_X3_apply_p24 h0 _ _ _ h
    · replace h := h.2 hc
      refine j_iconst (v := 1) dX3_apply_19 (by decide) ?_
      refine j_goto (tgt := 24) dX3_apply_20 (by decide) ?_
      refine j_sub [] rfl ?_
      exact k_X3_apply_p24 h0 _ _ _ h
def w_X3_decide_p12_b (post : Int32 → am_I → am_N → Prop) (zk12 : Int32 → am_I → am_N → Prop) (l2 : Int32) (M : am_I) (N : am_N) : Prop :=
  (((M (0, 0, 12) 2) ≤ l2 → post 0 M N) ∧ (¬ (M (0, 0, 12) 2) ≤ l2 → vp_in l2 548 ∧ ∀ zv1 : Int32, zv1 = M (0, 0, 13) l2.toNatClampNeg → ((zv1 < 0 → ((zv1 < (-4) → w_X3_apply (-zv1) M N (fun zM2 zN3 => zk12 (l2 + 1) zM2 zN3)) ∧ (¬ zv1 < (-4) → w_X3_pop M N (fun zr4 zM5 zN6 => w_X3_pop zM5 zN6 (fun zr7 zM8 zN9 => ((zr4 = 0 → zk12 (l2 + 1) (am_u (am_u (am_u zM8 (0, 0, 12) 7 zr7) (0, 0, 12) 6 ((-zv1) - 1)) (0, 0, 12) 5 (((am_u (am_u zM8 (0, 0, 12) 7 zr7) (0, 0, 12) 6 ((-zv1) - 1)) (0, 0, 12) 5) + 1)) zN9) ∧ (¬ zr4 = 0 → post 1 (am_u (am_u zM8 (0, 0, 12) 7 zr7) (0, 0, 12) 6 ((-zv1) - 1)) zN9))))))) ∧ (¬ zv1 < 0 → w_X3_push zv1 M N (fun zM10 zN11 => zk12 (l2 + 1) zM10 zN11)))))
noncomputable def w_X3_decide_p12 (post : Int32 → am_I → am_N → Prop) (n : Nat) : Int32 → am_I → am_N → Prop :=
  Nat.rec (motive := fun _ => Int32 → am_I → am_N → Prop) (fun _ _ _ => False) (fun _ zk => w_X3_decide_p12_b post zk) n
theorem w_X3_decide_p12_s (post : Int32 → am_I → am_N → Prop) (n : Nat) (l2 : Int32) (M : am_I) (N : am_N) : w_X3_decide_p12 post (n + 1) l2 M N = w_X3_decide_p12_b post (w_X3_decide_p12 post n) l2 M N := rfl
set_option maxRecDepth 10000 in
theorem k_X3_decide_p12 {d : Nat} {dm : List am_C} (h0 : am_d0 dm) {post : Int32 → am_I → am_N → Prop} : ∀ (n : Nat) (l2 : Int32) (M : am_I) (N : am_N), w_X3_decide_p12 post n l2 M N → jg (d + 5) mX3_decide dm 12 [(0, .inr (.inr (0, 0, 12))), (1, .inr (.inr (0, 0, 16))), (2, .inl l2)] [] M N (am_pi post) := by
  intro n
  induction n with
  | zero => intro l2 M N h; exact h.elim
  | succ n zih =>
    intro l2 M N h
    replace h : w_X3_decide_p12_b post (w_X3_decide_p12 post n) l2 M N := h
    refine j_iload_n 2 dX3_decide_12 rfl ?_
    refine j_aload_n 0 dX3_decide_13 rfl ?_
    refine j_getI dX3_decide_14 fsRX3_24 (h0 12 (by decide)) rfl ?_
    refine j_icmp_ge (tgt := 100) dX3_decide_17 (by decide) (fun hc => ?_) (fun hc => ?_)
    · replace h := h.1 hc
      refine j_iconst (v := 0) dX3_decide_100 (by decide) ?_
      exact j_zret dX3_decide_101 rfl (Or.inl rfl) ⟨_, rfl, h⟩
    · replace h := h.2 hc
      refine j_aload_n 0 dX3_decide_20 rfl ?_
      refine j_getR (b := (0, 0, 13)) dX3_decide_21 fsRX3_9 (h0 12 (by decide)) rfl rfl ?_
      refine j_iload_n 2 dX3_decide_24 rfl ?_
      obtain ⟨hq, h⟩ := h
      refine j_iald dX3_decide_25 (h0 13 (by decide)) rfl hq ?_
      refine j_topi (fun zv1 hzv1 => ?_)
      replace h := h zv1 hzv1
      refine j_istore_n dX3_decide_26 (by decide) rfl ?_
      refine j_iload_n 0 dX3_decide_27 rfl ?_
      refine j_if_lt (tgt := 39) dX3_decide_28 (by decide) (fun hc => ?_) (fun hc => ?_)
      · replace h := h.1 hc
        refine j_iload_n 0 dX3_decide_39 rfl ?_
        refine j_bipush (v := (-4)) dX3_decide_40 (by decide) ?_
        refine j_icmp_lt (tgt := 87) dX3_decide_42 (by decide) (fun hc => ?_) (fun hc => ?_)
        · replace h := h.1 hc
          refine j_aload_n 1 dX3_decide_87 rfl ?_
          refine j_iload_n 0 dX3_decide_88 rfl ?_
          refine j_ineg dX3_decide_89 ?_
          refine j_aload_n 2 dX3_decide_90 rfl ?_
          refine j_invV (As := [.inl (-zv1), .inr (.inr (0, 0, 16))]) dX3_decide_91 msRX3_57 mbX3_apply rfl rfl (Nat.le_of_ble_eq_true rfl) (Nat.le_of_ble_eq_true rfl) (by omega) (h0 12 (by decide)) rfl rfl (k_X3_apply (d := d + 0) h0 h) ?_
          rintro _ zM2 zN3 ⟨rfl, h⟩
          refine j_iinc 3 dX3_decide_94 rfl rfl (by decide) rfl ?_
          refine j_goto (tgt := 12) dX3_decide_97 (by decide) ?_
          refine j_sub [2, 3, 0] rfl ?_
          exact zih _ _ _ h
        · replace h := h.2 hc
          refine j_aload_n 1 dX3_decide_45 rfl ?_
          refine j_invV (As := []) dX3_decide_46 msRX3_47 mbX3_pop rfl rfl (Nat.le_of_ble_eq_true rfl) (Nat.le_of_ble_eq_true rfl) (by omega) (h0 12 (by decide)) rfl rfl (k_X3_pop (d := d + 3) h0 h) ?_
          rintro _ zM5 zN6 ⟨zr4, rfl, h⟩
          refine j_istore dX3_decide_49 (by decide) rfl ?_
          refine j_aload_n 2 dX3_decide_51 rfl ?_
          refine j_aload_n 2 dX3_decide_52 rfl ?_
          refine j_invV (As := []) dX3_decide_53 msRX3_47 mbX3_pop rfl rfl (Nat.le_of_ble_eq_true rfl) (Nat.le_of_ble_eq_true rfl) (by omega) (h0 12 (by decide)) rfl rfl (k_X3_pop (d := d + 3) h0 h) ?_
          rintro _ zM8 zN9 ⟨zr7, rfl, h⟩
          refine j_putI dX3_decide_56 fwRX3_51 (h0 12 (by decide)) rfl ?_
          refine j_aload_n 2 dX3_decide_59 rfl ?_
          refine j_iload_n 1 dX3_decide_60 rfl ?_
          refine j_ineg dX3_decide_61 ?_
          refine j_iconst (v := 1) dX3_decide_62 (by decide) ?_
          refine j_isub dX3_decide_63 ?_
          refine j_putI dX3_decide_64 fwRX3_54 (h0 12 (by decide)) rfl ?_
          refine j_iload 0 dX3_decide_67 rfl ?_
          refine j_if_eq (tgt := 74) dX3_decide_69 (by decide) (fun hc => ?_) (fun hc => ?_)
          · replace h := h.1 hc
            refine j_aload_n 2 dX3_decide_74 rfl ?_
            refine j_dup dX3_decide_75 rfl ?_
            refine j_getI dX3_decide_76 fsRX3_40 (h0 12 (by decide)) rfl ?_
            refine j_iconst (v := 1) dX3_decide_79 (by decide) ?_
            refine j_iadd dX3_decide_80 ?_
            refine j_putI dX3_decide_81 fwRX3_40 (h0 12 (by decide)) rfl ?_
            refine j_goto (tgt := 94) dX3_decide_84 (by decide) ?_
            refine j_iinc 4 dX3_decide_94 rfl rfl (by decide) rfl ?_
            refine j_goto (tgt := 12) dX3_decide_97 (by decide) ?_
            refine j_sub [3, 4, 0] rfl ?_
            exact zih _ _ _ h
          · replace h := h.2 hc
            refine j_iconst (v := 1) dX3_decide_72 (by decide) ?_
            exact j_zret dX3_decide_73 rfl (Or.inr rfl) ⟨_, rfl, h⟩
      · replace h := h.2 hc
        refine j_aload_n 1 dX3_decide_31 rfl ?_
        refine j_iload_n 0 dX3_decide_32 rfl ?_
        refine j_invV (As := [.inl zv1]) dX3_decide_33 msRX3_43 mbX3_push rfl rfl (Nat.le_of_ble_eq_true rfl) (Nat.le_of_ble_eq_true rfl) (by omega) (h0 12 (by decide)) rfl rfl (k_X3_push (d := d + 3) h0 h) ?_
        rintro _ zM10 zN11 ⟨rfl, h⟩
        refine j_goto (tgt := 94) dX3_decide_36 (by decide) ?_
        refine j_iinc 3 dX3_decide_94 rfl rfl (by decide) rfl ?_
        refine j_goto (tgt := 12) dX3_decide_97 (by decide) ?_
        refine j_sub [2, 3, 0] rfl ?_
        exact zih _ _ _ h
def w_X3_decide (M : am_I) (N : am_N) (post : Int32 → am_I → am_N → Prop) : Prop :=
  ∃ n, w_X3_decide_p12 post n 0 (am_u (am_u M (0, 0, 12) 4 0) (0, 0, 12) 5 0) N
set_option maxRecDepth 10000 in
theorem k_X3_decide {d : Nat} {dm : List am_C} (h0 : am_d0 dm) {M : am_I} {N : am_N} {post : Int32 → am_I → am_N → Prop} (h : w_X3_decide M N post) : jg (d + 5) mX3_decide dm 0 [(0, .inr (.inr (0, 0, 12))), (1, .inr (.inr (0, 0, 16)))] [] M N (am_pi post) := by
  refine j_aload_n 0 dX3_decide_0 rfl ?_
  refine j_iconst (v := 0) dX3_decide_1 (by decide) ?_
  refine j_putI dX3_decide_2 fwRX3_37 (h0 12 (by decide)) rfl ?_
  refine j_aload_n 0 dX3_decide_5 rfl ?_
  refine j_iconst (v := 0) dX3_decide_6 (by decide) ?_
  refine j_putI dX3_decide_7 fwRX3_40 (h0 12 (by decide)) rfl ?_
  refine j_iconst (v := 0) dX3_decide_10 (by decide) ?_
  refine j_istore_n dX3_decide_11 (by decide) rfl ?_
  refine j_sub [1, 2, 0] rfl ?_
  obtain ⟨n, h⟩ := h
  exact k_X3_decide_p12 h0 n _ _ _ h
