/-! ===== methods: 27.model4 ===== -/
theorem dX12_statement_0 : decode mX12_statement.2.1 0 = .ok (.aload_n 0, 1) := by decide +kernel
theorem dX12_statement_1 : decode mX12_statement.2.1 1 = .ok (.getfield 121, 3) := by decide +kernel
theorem dX12_statement_4 : decode mX12_statement.2.1 4 = .ok (.iload_n 1, 1) := by decide +kernel
theorem dX12_statement_5 : decode mX12_statement.2.1 5 = .ok (.aload_n 0, 1) := by decide +kernel
theorem dX12_statement_6 : decode mX12_statement.2.1 6 = .ok (.ldc2_w 451, 3) := by decide +kernel
theorem dX12_statement_9 : decode mX12_statement.2.1 9 = .ok (.invokevirtual 442, 3) := by decide +kernel
theorem dX12_statement_12 : decode mX12_statement.2.1 12 = .ok (.ifCond .eq 7, 3) := by decide +kernel
theorem dX12_statement_15 : decode mX12_statement.2.1 15 = .ok (.iconst 0, 1) := by decide +kernel
theorem dX12_statement_16 : decode mX12_statement.2.1 16 = .ok (.goto 46, 3) := by decide +kernel
theorem dX12_statement_19 : decode mX12_statement.2.1 19 = .ok (.aload_n 0, 1) := by decide +kernel
theorem dX12_statement_20 : decode mX12_statement.2.1 20 = .ok (.ldc2_w 453, 3) := by decide +kernel
theorem dX12_statement_23 : decode mX12_statement.2.1 23 = .ok (.invokevirtual 442, 3) := by decide +kernel
theorem dX12_statement_26 : decode mX12_statement.2.1 26 = .ok (.ifCond .eq 7, 3) := by decide +kernel
theorem dX12_statement_29 : decode mX12_statement.2.1 29 = .ok (.iconst 1, 1) := by decide +kernel
theorem dX12_statement_30 : decode mX12_statement.2.1 30 = .ok (.goto 32, 3) := by decide +kernel
theorem dX12_statement_33 : decode mX12_statement.2.1 33 = .ok (.aload_n 0, 1) := by decide +kernel
theorem dX12_statement_34 : decode mX12_statement.2.1 34 = .ok (.ldc2_w 455, 3) := by decide +kernel
theorem dX12_statement_37 : decode mX12_statement.2.1 37 = .ok (.invokevirtual 442, 3) := by decide +kernel
theorem dX12_statement_40 : decode mX12_statement.2.1 40 = .ok (.ifCond .eq 7, 3) := by decide +kernel
theorem dX12_statement_43 : decode mX12_statement.2.1 43 = .ok (.iconst 2, 1) := by decide +kernel
theorem dX12_statement_44 : decode mX12_statement.2.1 44 = .ok (.goto 18, 3) := by decide +kernel
theorem dX12_statement_47 : decode mX12_statement.2.1 47 = .ok (.aload_n 0, 1) := by decide +kernel
theorem dX12_statement_48 : decode mX12_statement.2.1 48 = .ok (.ldc2_w 457, 3) := by decide +kernel
theorem dX12_statement_51 : decode mX12_statement.2.1 51 = .ok (.invokevirtual 442, 3) := by decide +kernel
theorem dX12_statement_54 : decode mX12_statement.2.1 54 = .ok (.ifCond .eq 7, 3) := by decide +kernel
theorem dX12_statement_57 : decode mX12_statement.2.1 57 = .ok (.iconst 3, 1) := by decide +kernel
theorem dX12_statement_58 : decode mX12_statement.2.1 58 = .ok (.goto 4, 3) := by decide +kernel
theorem dX12_statement_61 : decode mX12_statement.2.1 61 = .ok (.iconst (-1), 1) := by decide +kernel
theorem dX12_statement_62 : decode mX12_statement.2.1 62 = .ok (.iastore, 1) := by decide +kernel
theorem dX12_statement_63 : decode mX12_statement.2.1 63 = .ok (.aload_n 0, 1) := by decide +kernel
theorem dX12_statement_64 : decode mX12_statement.2.1 64 = .ok (.getfield 121, 3) := by decide +kernel
theorem dX12_statement_67 : decode mX12_statement.2.1 67 = .ok (.iload_n 1, 1) := by decide +kernel
theorem dX12_statement_68 : decode mX12_statement.2.1 68 = .ok (.iaload, 1) := by decide +kernel
theorem dX12_statement_69 : decode mX12_statement.2.1 69 = .ok (.iconst (-1), 1) := by decide +kernel
theorem dX12_statement_70 : decode mX12_statement.2.1 70 = .ok (.if_icmp .ne 5, 3) := by decide +kernel
theorem dX12_statement_73 : decode mX12_statement.2.1 73 = .ok (.iconst 0, 1) := by decide +kernel
theorem dX12_statement_74 : decode mX12_statement.2.1 74 = .ok (.ireturn, 1) := by decide +kernel
theorem dX12_statement_75 : decode mX12_statement.2.1 75 = .ok (.aload_n 0, 1) := by decide +kernel
theorem dX12_statement_76 : decode mX12_statement.2.1 76 = .ok (.iconst 0, 1) := by decide +kernel
theorem dX12_statement_77 : decode mX12_statement.2.1 77 = .ok (.putfield 404, 3) := by decide +kernel
theorem dX12_statement_80 : decode mX12_statement.2.1 80 = .ok (.aload_n 0, 1) := by decide +kernel
theorem dX12_statement_81 : decode mX12_statement.2.1 81 = .ok (.getfield 124, 3) := by decide +kernel
theorem dX12_statement_84 : decode mX12_statement.2.1 84 = .ok (.iload_n 1, 1) := by decide +kernel
theorem dX12_statement_85 : decode mX12_statement.2.1 85 = .ok (.aload_n 0, 1) := by decide +kernel
theorem dX12_statement_86 : decode mX12_statement.2.1 86 = .ok (.getfield 401, 3) := by decide +kernel
theorem dX12_statement_89 : decode mX12_statement.2.1 89 = .ok (.iastore, 1) := by decide +kernel
theorem dX12_statement_90 : decode mX12_statement.2.1 90 = .ok (.aload_n 0, 1) := by decide +kernel
theorem dX12_statement_91 : decode mX12_statement.2.1 91 = .ok (.getfield 121, 3) := by decide +kernel
theorem dX12_statement_94 : decode mX12_statement.2.1 94 = .ok (.iload_n 1, 1) := by decide +kernel
theorem dX12_statement_95 : decode mX12_statement.2.1 95 = .ok (.iaload, 1) := by decide +kernel
theorem dX12_statement_96 : decode mX12_statement.2.1 96 = .ok (.iconst 3, 1) := by decide +kernel
theorem dX12_statement_97 : decode mX12_statement.2.1 97 = .ok (.if_icmp .ne 12, 3) := by decide +kernel
theorem dX12_statement_100 : decode mX12_statement.2.1 100 = .ok (.aload_n 0, 1) := by decide +kernel
theorem dX12_statement_101 : decode mX12_statement.2.1 101 = .ok (.invokevirtual 416, 3) := by decide +kernel
theorem dX12_statement_104 : decode mX12_statement.2.1 104 = .ok (.ifCond .ne 5, 3) := by decide +kernel
theorem dX12_statement_107 : decode mX12_statement.2.1 107 = .ok (.iconst 0, 1) := by decide +kernel
theorem dX12_statement_108 : decode mX12_statement.2.1 108 = .ok (.ireturn, 1) := by decide +kernel
theorem dX12_statement_109 : decode mX12_statement.2.1 109 = .ok (.aload_n 0, 1) := by decide +kernel
theorem dX12_statement_110 : decode mX12_statement.2.1 110 = .ok (.getfield 127, 3) := by decide +kernel
theorem dX12_statement_113 : decode mX12_statement.2.1 113 = .ok (.iload_n 1, 1) := by decide +kernel
theorem dX12_statement_114 : decode mX12_statement.2.1 114 = .ok (.aload_n 0, 1) := by decide +kernel
theorem dX12_statement_115 : decode mX12_statement.2.1 115 = .ok (.getfield 401, 3) := by decide +kernel
theorem dX12_statement_118 : decode mX12_statement.2.1 118 = .ok (.iastore, 1) := by decide +kernel
theorem dX12_statement_119 : decode mX12_statement.2.1 119 = .ok (.aload_n 0, 1) := by decide +kernel
theorem dX12_statement_120 : decode mX12_statement.2.1 120 = .ok (.ldc2_w 459, 3) := by decide +kernel
theorem dX12_statement_123 : decode mX12_statement.2.1 123 = .ok (.invokevirtual 442, 3) := by decide +kernel
theorem dX12_statement_126 : decode mX12_statement.2.1 126 = .ok (.ifCond .eq 12, 3) := by decide +kernel
theorem dX12_statement_129 : decode mX12_statement.2.1 129 = .ok (.aload_n 0, 1) := by decide +kernel
theorem dX12_statement_130 : decode mX12_statement.2.1 130 = .ok (.invokevirtual 437, 3) := by decide +kernel
theorem dX12_statement_133 : decode mX12_statement.2.1 133 = .ok (.ifCond .ne 5, 3) := by decide +kernel
theorem dX12_statement_136 : decode mX12_statement.2.1 136 = .ok (.iconst 0, 1) := by decide +kernel
theorem dX12_statement_137 : decode mX12_statement.2.1 137 = .ok (.ireturn, 1) := by decide +kernel
theorem dX12_statement_138 : decode mX12_statement.2.1 138 = .ok (.aload_n 0, 1) := by decide +kernel
theorem dX12_statement_139 : decode mX12_statement.2.1 139 = .ok (.getfield 130, 3) := by decide +kernel
theorem dX12_statement_142 : decode mX12_statement.2.1 142 = .ok (.iload_n 1, 1) := by decide +kernel
theorem dX12_statement_143 : decode mX12_statement.2.1 143 = .ok (.aload_n 0, 1) := by decide +kernel
theorem dX12_statement_144 : decode mX12_statement.2.1 144 = .ok (.getfield 401, 3) := by decide +kernel
theorem dX12_statement_147 : decode mX12_statement.2.1 147 = .ok (.iastore, 1) := by decide +kernel
theorem dX12_statement_148 : decode mX12_statement.2.1 148 = .ok (.aload_n 0, 1) := by decide +kernel
theorem dX12_statement_149 : decode mX12_statement.2.1 149 = .ok (.bipush 59, 2) := by decide +kernel
theorem dX12_statement_151 : decode mX12_statement.2.1 151 = .ok (.invokevirtual 419, 3) := by decide +kernel
theorem dX12_statement_154 : decode mX12_statement.2.1 154 = .ok (.ireturn, 1) := by decide +kernel
theorem dX12_rules_0 : decode mX12_rules.2.1 0 = .ok (.iload_n 1, 1) := by decide +kernel
theorem dX12_rules_1 : decode mX12_rules.2.1 1 = .ok (.iconst 0, 1) := by decide +kernel
theorem dX12_rules_2 : decode mX12_rules.2.1 2 = .ok (.aload_n 0, 1) := by decide +kernel
theorem dX12_rules_3 : decode mX12_rules.2.1 3 = .ok (.getfield 360, 3) := by decide +kernel
theorem dX12_rules_6 : decode mX12_rules.2.1 6 = .ok (.invokestatic 162, 3) := by decide +kernel
theorem dX12_rules_9 : decode mX12_rules.2.1 9 = .ok (.ifCond .ne 6, 3) := by decide +kernel
theorem dX12_rules_12 : decode mX12_rules.2.1 12 = .ok (.bipush (-2), 2) := by decide +kernel
theorem dX12_rules_14 : decode mX12_rules.2.1 14 = .ok (.ireturn, 1) := by decide +kernel
theorem dX12_rules_15 : decode mX12_rules.2.1 15 = .ok (.aload_n 0, 1) := by decide +kernel
theorem dX12_rules_16 : decode mX12_rules.2.1 16 = .ok (.getfield 461, 3) := by decide +kernel
theorem dX12_rules_19 : decode mX12_rules.2.1 19 = .ok (.bipush 8, 2) := by decide +kernel
theorem dX12_rules_21 : decode mX12_rules.2.1 21 = .ok (.if_icmp .ne 6, 3) := by decide +kernel
theorem dX12_rules_24 : decode mX12_rules.2.1 24 = .ok (.bipush (-3), 2) := by decide +kernel
theorem dX12_rules_26 : decode mX12_rules.2.1 26 = .ok (.ireturn, 1) := by decide +kernel
theorem dX12_rules_27 : decode mX12_rules.2.1 27 = .ok (.iconst 0, 1) := by decide +kernel
theorem dX12_rules_28 : decode mX12_rules.2.1 28 = .ok (.istore_n 2, 1) := by decide +kernel
theorem dX12_rules_29 : decode mX12_rules.2.1 29 = .ok (.iload_n 2, 1) := by decide +kernel
theorem dX12_rules_30 : decode mX12_rules.2.1 30 = .ok (.iload_n 1, 1) := by decide +kernel
theorem dX12_rules_31 : decode mX12_rules.2.1 31 = .ok (.if_icmp .ge 21, 3) := by decide +kernel
theorem dX12_rules_34 : decode mX12_rules.2.1 34 = .ok (.aload_n 0, 1) := by decide +kernel
theorem dX12_rules_35 : decode mX12_rules.2.1 35 = .ok (.getfield 149, 3) := by decide +kernel
theorem dX12_rules_38 : decode mX12_rules.2.1 38 = .ok (.iload_n 2, 1) := by decide +kernel
theorem dX12_rules_39 : decode mX12_rules.2.1 39 = .ok (.aload_n 0, 1) := by decide +kernel
theorem dX12_rules_40 : decode mX12_rules.2.1 40 = .ok (.getfield 145, 3) := by decide +kernel
theorem dX12_rules_43 : decode mX12_rules.2.1 43 = .ok (.iload_n 2, 1) := by decide +kernel
theorem dX12_rules_44 : decode mX12_rules.2.1 44 = .ok (.baload, 1) := by decide +kernel
theorem dX12_rules_45 : decode mX12_rules.2.1 45 = .ok (.bastore, 1) := by decide +kernel
theorem dX12_rules_46 : decode mX12_rules.2.1 46 = .ok (.iinc 2 1, 3) := by decide +kernel
theorem dX12_rules_49 : decode mX12_rules.2.1 49 = .ok (.goto (-20), 3) := by decide +kernel
theorem dX12_rules_52 : decode mX12_rules.2.1 52 = .ok (.aload_n 0, 1) := by decide +kernel
theorem dX12_rules_53 : decode mX12_rules.2.1 53 = .ok (.iload_n 1, 1) := by decide +kernel
theorem dX12_rules_54 : decode mX12_rules.2.1 54 = .ok (.putfield 369, 3) := by decide +kernel
theorem dX12_rules_57 : decode mX12_rules.2.1 57 = .ok (.aload_n 0, 1) := by decide +kernel
theorem dX12_rules_58 : decode mX12_rules.2.1 58 = .ok (.iconst 0, 1) := by decide +kernel
theorem dX12_rules_59 : decode mX12_rules.2.1 59 = .ok (.putfield 360, 3) := by decide +kernel
theorem dX12_rules_62 : decode mX12_rules.2.1 62 = .ok (.aload_n 0, 1) := by decide +kernel
theorem dX12_rules_63 : decode mX12_rules.2.1 63 = .ok (.iconst 0, 1) := by decide +kernel
theorem dX12_rules_64 : decode mX12_rules.2.1 64 = .ok (.putfield 366, 3) := by decide +kernel
theorem dX12_rules_67 : decode mX12_rules.2.1 67 = .ok (.aload_n 0, 1) := by decide +kernel
theorem dX12_rules_68 : decode mX12_rules.2.1 68 = .ok (.getfield 401, 3) := by decide +kernel
theorem dX12_rules_71 : decode mX12_rules.2.1 71 = .ok (.istore_n 2, 1) := by decide +kernel
theorem dX12_rules_72 : decode mX12_rules.2.1 72 = .ok (.aload_n 0, 1) := by decide +kernel
theorem dX12_rules_73 : decode mX12_rules.2.1 73 = .ok (.getfield 118, 3) := by decide +kernel
theorem dX12_rules_76 : decode mX12_rules.2.1 76 = .ok (.aload_n 0, 1) := by decide +kernel
theorem dX12_rules_77 : decode mX12_rules.2.1 77 = .ok (.getfield 461, 3) := by decide +kernel
theorem dX12_rules_80 : decode mX12_rules.2.1 80 = .ok (.iconst 0, 1) := by decide +kernel
theorem dX12_rules_81 : decode mX12_rules.2.1 81 = .ok (.iastore, 1) := by decide +kernel
theorem dX12_rules_82 : decode mX12_rules.2.1 82 = .ok (.iconst 1, 1) := by decide +kernel
theorem dX12_rules_83 : decode mX12_rules.2.1 83 = .ok (.istore_n 3, 1) := by decide +kernel
theorem dX12_rules_84 : decode mX12_rules.2.1 84 = .ok (.aload_n 0, 1) := by decide +kernel
theorem dX12_rules_85 : decode mX12_rules.2.1 85 = .ok (.invokevirtual 372, 3) := by decide +kernel
theorem dX12_rules_88 : decode mX12_rules.2.1 88 = .ok (.iload_n 3, 1) := by decide +kernel
theorem dX12_rules_89 : decode mX12_rules.2.1 89 = .ok (.ifCond .eq 85, 3) := by decide +kernel
theorem dX12_rules_92 : decode mX12_rules.2.1 92 = .ok (.aload_n 0, 1) := by decide +kernel
theorem dX12_rules_93 : decode mX12_rules.2.1 93 = .ok (.getfield 366, 3) := by decide +kernel
theorem dX12_rules_96 : decode mX12_rules.2.1 96 = .ok (.aload_n 0, 1) := by decide +kernel
theorem dX12_rules_97 : decode mX12_rules.2.1 97 = .ok (.getfield 369, 3) := by decide +kernel
theorem dX12_rules_100 : decode mX12_rules.2.1 100 = .ok (.if_icmp .ge 74, 3) := by decide +kernel
theorem dX12_rules_103 : decode mX12_rules.2.1 103 = .ok (.aload_n 0, 1) := by decide +kernel
theorem dX12_rules_104 : decode mX12_rules.2.1 104 = .ok (.getfield 118, 3) := by decide +kernel
theorem dX12_rules_107 : decode mX12_rules.2.1 107 = .ok (.aload_n 0, 1) := by decide +kernel
theorem dX12_rules_108 : decode mX12_rules.2.1 108 = .ok (.getfield 461, 3) := by decide +kernel
theorem dX12_rules_111 : decode mX12_rules.2.1 111 = .ok (.iaload, 1) := by decide +kernel
theorem dX12_rules_112 : decode mX12_rules.2.1 112 = .ok (.bipush 24, 2) := by decide +kernel
theorem dX12_rules_114 : decode mX12_rules.2.1 114 = .ok (.if_icmp .ge 31, 3) := by decide +kernel
theorem dX12_rules_117 : decode mX12_rules.2.1 117 = .ok (.aload_n 0, 1) := by decide +kernel
theorem dX12_rules_118 : decode mX12_rules.2.1 118 = .ok (.bipush 24, 2) := by decide +kernel
theorem dX12_rules_120 : decode mX12_rules.2.1 120 = .ok (.aload_n 0, 1) := by decide +kernel
theorem dX12_rules_121 : decode mX12_rules.2.1 121 = .ok (.getfield 461, 3) := by decide +kernel
theorem dX12_rules_124 : decode mX12_rules.2.1 124 = .ok (.imul, 1) := by decide +kernel
theorem dX12_rules_125 : decode mX12_rules.2.1 125 = .ok (.aload_n 0, 1) := by decide +kernel
theorem dX12_rules_126 : decode mX12_rules.2.1 126 = .ok (.getfield 118, 3) := by decide +kernel
theorem dX12_rules_129 : decode mX12_rules.2.1 129 = .ok (.aload_n 0, 1) := by decide +kernel
theorem dX12_rules_130 : decode mX12_rules.2.1 130 = .ok (.getfield 461, 3) := by decide +kernel
theorem dX12_rules_133 : decode mX12_rules.2.1 133 = .ok (.iaload, 1) := by decide +kernel
theorem dX12_rules_134 : decode mX12_rules.2.1 134 = .ok (.iadd, 1) := by decide +kernel
theorem dX12_rules_135 : decode mX12_rules.2.1 135 = .ok (.invokevirtual 464, 3) := by decide +kernel
theorem dX12_rules_138 : decode mX12_rules.2.1 138 = .ok (.ifCond .eq 7, 3) := by decide +kernel
theorem dX12_rules_141 : decode mX12_rules.2.1 141 = .ok (.iconst 1, 1) := by decide +kernel
theorem dX12_rules_142 : decode mX12_rules.2.1 142 = .ok (.goto 4, 3) := by decide +kernel
theorem dX12_rules_145 : decode mX12_rules.2.1 145 = .ok (.iconst 0, 1) := by decide +kernel
theorem dX12_rules_146 : decode mX12_rules.2.1 146 = .ok (.istore_n 3, 1) := by decide +kernel
theorem dX12_rules_147 : decode mX12_rules.2.1 147 = .ok (.iload_n 3, 1) := by decide +kernel
theorem dX12_rules_148 : decode mX12_rules.2.1 148 = .ok (.ifCond .ne 6, 3) := by decide +kernel
theorem dX12_rules_151 : decode mX12_rules.2.1 151 = .ok (.goto (-63), 3) := by decide +kernel
theorem dX12_rules_154 : decode mX12_rules.2.1 154 = .ok (.aload_n 0, 1) := by decide +kernel
theorem dX12_rules_155 : decode mX12_rules.2.1 155 = .ok (.getfield 118, 3) := by decide +kernel
theorem dX12_rules_158 : decode mX12_rules.2.1 158 = .ok (.aload_n 0, 1) := by decide +kernel
theorem dX12_rules_159 : decode mX12_rules.2.1 159 = .ok (.getfield 461, 3) := by decide +kernel
theorem dX12_rules_162 : decode mX12_rules.2.1 162 = .ok (.dup2, 1) := by decide +kernel
theorem dX12_rules_163 : decode mX12_rules.2.1 163 = .ok (.iaload, 1) := by decide +kernel
theorem dX12_rules_164 : decode mX12_rules.2.1 164 = .ok (.iconst 1, 1) := by decide +kernel
theorem dX12_rules_165 : decode mX12_rules.2.1 165 = .ok (.iadd, 1) := by decide +kernel
theorem dX12_rules_166 : decode mX12_rules.2.1 166 = .ok (.iastore, 1) := by decide +kernel
theorem dX12_rules_167 : decode mX12_rules.2.1 167 = .ok (.aload_n 0, 1) := by decide +kernel
theorem dX12_rules_168 : decode mX12_rules.2.1 168 = .ok (.invokevirtual 372, 3) := by decide +kernel
theorem dX12_rules_171 : decode mX12_rules.2.1 171 = .ok (.goto (-83), 3) := by decide +kernel
theorem dX12_rules_174 : decode mX12_rules.2.1 174 = .ok (.aload_n 0, 1) := by decide +kernel
theorem dX12_rules_175 : decode mX12_rules.2.1 175 = .ok (.iload_n 3, 1) := by decide +kernel
theorem dX12_rules_176 : decode mX12_rules.2.1 176 = .ok (.ifCond .eq 7, 3) := by decide +kernel
theorem dX12_rules_179 : decode mX12_rules.2.1 179 = .ok (.iconst (-1), 1) := by decide +kernel
theorem dX12_rules_180 : decode mX12_rules.2.1 180 = .ok (.goto 7, 3) := by decide +kernel
theorem dX12_rules_183 : decode mX12_rules.2.1 183 = .ok (.aload_n 0, 1) := by decide +kernel
theorem dX12_rules_184 : decode mX12_rules.2.1 184 = .ok (.getfield 366, 3) := by decide +kernel
theorem dX12_rules_187 : decode mX12_rules.2.1 187 = .ok (.putfield 115, 3) := by decide +kernel
theorem dX12_rules_190 : decode mX12_rules.2.1 190 = .ok (.iload_n 3, 1) := by decide +kernel
theorem dX12_rules_191 : decode mX12_rules.2.1 191 = .ok (.ifCond .ne 10, 3) := by decide +kernel
theorem dX12_rules_194 : decode mX12_rules.2.1 194 = .ok (.aload_n 0, 1) := by decide +kernel
theorem dX12_rules_195 : decode mX12_rules.2.1 195 = .ok (.iload_n 2, 1) := by decide +kernel
theorem dX12_rules_196 : decode mX12_rules.2.1 196 = .ok (.putfield 401, 3) := by decide +kernel
theorem dX12_rules_199 : decode mX12_rules.2.1 199 = .ok (.iconst (-1), 1) := by decide +kernel
theorem dX12_rules_200 : decode mX12_rules.2.1 200 = .ok (.ireturn, 1) := by decide +kernel
theorem dX12_rules_201 : decode mX12_rules.2.1 201 = .ok (.aload_n 0, 1) := by decide +kernel
theorem dX12_rules_202 : decode mX12_rules.2.1 202 = .ok (.dup, 1) := by decide +kernel
theorem dX12_rules_203 : decode mX12_rules.2.1 203 = .ok (.getfield 461, 3) := by decide +kernel
theorem dX12_rules_206 : decode mX12_rules.2.1 206 = .ok (.iconst 1, 1) := by decide +kernel
theorem dX12_rules_207 : decode mX12_rules.2.1 207 = .ok (.iadd, 1) := by decide +kernel
theorem dX12_rules_208 : decode mX12_rules.2.1 208 = .ok (.putfield 461, 3) := by decide +kernel
theorem dX12_rules_211 : decode mX12_rules.2.1 211 = .ok (.aload_n 0, 1) := by decide +kernel
theorem dX12_rules_212 : decode mX12_rules.2.1 212 = .ok (.getfield 461, 3) := by decide +kernel
theorem dX12_rules_215 : decode mX12_rules.2.1 215 = .ok (.iconst 1, 1) := by decide +kernel
theorem dX12_rules_216 : decode mX12_rules.2.1 216 = .ok (.isub, 1) := by decide +kernel
theorem dX12_rules_217 : decode mX12_rules.2.1 217 = .ok (.ireturn, 1) := by decide +kernel
def w_X12_statement_p138 (post : Int32 → am_I → am_N → Prop) (l1 : Int32) (M : am_I) (N : am_N) : Prop :=
  vp_in l1 216 ∧ w_X12_takesSign 59 (am_u M (3, 0, 38) l1.toNatClampNeg (M (3, 0, 0) 46)) N (fun zr1 zM2 zN3 => (zr1 = 0 ∨ zr1 = 1) ∧ post zr1 zM2 zN3)
set_option maxRecDepth 10000 in
theorem k_X12_statement_p138 {d : Nat} {dm : List am_C} (h3 : am_d3 dm) {post : Int32 → am_I → am_N → Prop} (l1 : Int32) (M : am_I) (N : am_N) (h : w_X12_statement_p138 post l1 M N) : jg (d + 45) mX12_statement dm 138 [(0, .inr (.inr (3, 0, 0))), (1, .inl l1)] [] M N (am_pi post) := by
  refine j_aload_n 0 dX12_statement_138 rfl ?_
  refine j_getR (b := (3, 0, 38)) dX12_statement_139 fsRX12_130 (h3 0 (by decide)) rfl rfl ?_
  refine j_iload_n 1 dX12_statement_142 rfl ?_
  refine j_aload_n 0 dX12_statement_143 rfl ?_
  refine j_getI dX12_statement_144 fsRX12_401 (h3 0 (by decide)) rfl ?_
  obtain ⟨hq, h⟩ := h
  refine j_iast dX12_statement_147 (h3 38 (by decide)) rfl hq ?_
  refine j_aload_n 0 dX12_statement_148 rfl ?_
  refine j_bipush (v := 59) dX12_statement_149 (by decide) ?_
  refine j_invV (As := [.inl 59]) dX12_statement_151 msRX12_419 mbX12_takesSign rfl rfl (Nat.le_of_ble_eq_true rfl) (Nat.le_of_ble_eq_true rfl) (by omega) (h3 0 (by decide)) rfl rfl (k_X12_takesSign (d := d + 42) h3 h) ?_
  rintro _ zM2 zN3 ⟨zr1, rfl, h⟩
  exact j_zret dX12_statement_154 rfl h.1 ⟨_, rfl, h.2⟩
def w_X12_statement_p109 (post : Int32 → am_I → am_N → Prop) (l1 : Int32) (M : am_I) (N : am_N) : Prop :=
  vp_in l1 216 ∧ w_X12_takes 26982 (am_u M (3, 0, 37) l1.toNatClampNeg (M (3, 0, 0) 46)) N (fun zr1 zM2 zN3 => ((zr1 = 0 → w_X12_statement_p138 post l1 zM2 zN3) ∧ (¬ zr1 = 0 → w_X12_any zM2 zN3 (fun zr4 zM5 zN6 => ((¬ zr4 = 0 → w_X12_statement_p138 post l1 zM5 zN6) ∧ (zr4 = 0 → post 0 zM5 zN6))))))
set_option maxRecDepth 10000 in
theorem k_X12_statement_p109 {d : Nat} {dm : List am_C} (h3 : am_d3 dm) {post : Int32 → am_I → am_N → Prop} (l1 : Int32) (M : am_I) (N : am_N) (h : w_X12_statement_p109 post l1 M N) : jg (d + 45) mX12_statement dm 109 [(0, .inr (.inr (3, 0, 0))), (1, .inl l1)] [] M N (am_pi post) := by
  refine j_aload_n 0 dX12_statement_109 rfl ?_
  refine j_getR (b := (3, 0, 37)) dX12_statement_110 fsRX12_127 (h3 0 (by decide)) rfl rfl ?_
  refine j_iload_n 1 dX12_statement_113 rfl ?_
  refine j_aload_n 0 dX12_statement_114 rfl ?_
  refine j_getI dX12_statement_115 fsRX12_401 (h3 0 (by decide)) rfl ?_
  obtain ⟨hq, h⟩ := h
  refine j_iast dX12_statement_118 (h3 37 (by decide)) rfl hq ?_
  refine j_aload_n 0 dX12_statement_119 rfl ?_
  refine j_ldc2 (v := 26982) dX12_statement_120 cw_1895 ?_
  refine j_invV (As := [.inr (.inl 26982)]) dX12_statement_123 msRX12_442 mbX12_takes rfl rfl (Nat.le_of_ble_eq_true rfl) (Nat.le_of_ble_eq_true rfl) (by omega) (h3 0 (by decide)) rfl rfl (k_X12_takes (d := d + 41) h3 h) ?_
  rintro _ zM2 zN3 ⟨zr1, rfl, h⟩
  refine j_if_eq (tgt := 138) dX12_statement_126 (by decide) (fun hc => ?_) (fun hc => ?_)
  · replace h := h.1 hc
    refine j_sub [0, 1] rfl ?_
    exact k_X12_statement_p138 h3 _ _ _ h
  · replace h := h.2 hc
    refine j_aload_n 0 dX12_statement_129 rfl ?_
    refine j_invV (As := []) dX12_statement_130 msRX12_437 mbX12_any rfl rfl (Nat.le_of_ble_eq_true rfl) (Nat.le_of_ble_eq_true rfl) (by omega) (h3 0 (by decide)) rfl rfl (k_X12_any (d := d + 0) h3 h) ?_
    rintro _ zM5 zN6 ⟨zr4, rfl, h⟩
    refine j_if_ne (tgt := 138) dX12_statement_133 (by decide) (fun hc => ?_) (fun hc => ?_)
    · replace h := h.1 hc
      refine j_sub [0, 1] rfl ?_
      exact k_X12_statement_p138 h3 _ _ _ h
    · replace h := h.2 hc
      refine j_iconst (v := 0) dX12_statement_136 (by decide) ?_
      exact j_zret dX12_statement_137 rfl (Or.inl rfl) ⟨_, rfl, h⟩
def w_X12_statement_p62 (post : Int32 → am_I → am_N → Prop) (l1 : Int32) (s0 : Int32) (s1 : Int32) (M : am_I) (N : am_N) : Prop :=
  vp_in s1 216 ∧ vp_in l1 216 ∧ ((¬ ((am_u M (3, 0, 35) s1.toNatClampNeg s0) (3, 0, 35) l1.toNatClampNeg) = (-1) → vp_in l1 216 ∧ vp_in l1 216 ∧ ((¬ ((am_u (am_u (am_u M (3, 0, 35) s1.toNatClampNeg s0) (3, 0, 0) 50 0) (3, 0, 36) l1.toNatClampNeg ((am_u (am_u M (3, 0, 35) s1.toNatClampNeg s0) (3, 0, 0) 50 0) (3, 0, 0) 46)) (3, 0, 35) l1.toNatClampNeg) = 3 → w_X12_statement_p109 post l1 (am_u (am_u (am_u M (3, 0, 35) s1.toNatClampNeg s0) (3, 0, 0) 50 0) (3, 0, 36) l1.toNatClampNeg ((am_u (am_u M (3, 0, 35) s1.toNatClampNeg s0) (3, 0, 0) 50 0) (3, 0, 0) 46)) N) ∧ (((am_u (am_u (am_u M (3, 0, 35) s1.toNatClampNeg s0) (3, 0, 0) 50 0) (3, 0, 36) l1.toNatClampNeg ((am_u (am_u M (3, 0, 35) s1.toNatClampNeg s0) (3, 0, 0) 50 0) (3, 0, 0) 46)) (3, 0, 35) l1.toNatClampNeg) = 3 → w_X12_ex (am_u (am_u (am_u M (3, 0, 35) s1.toNatClampNeg s0) (3, 0, 0) 50 0) (3, 0, 36) l1.toNatClampNeg ((am_u (am_u M (3, 0, 35) s1.toNatClampNeg s0) (3, 0, 0) 50 0) (3, 0, 0) 46)) N (fun zr1 zM2 zN3 => ((¬ zr1 = 0 → w_X12_statement_p109 post l1 zM2 zN3) ∧ (zr1 = 0 → post 0 zM2 zN3)))))) ∧ (((am_u M (3, 0, 35) s1.toNatClampNeg s0) (3, 0, 35) l1.toNatClampNeg) = (-1) → post 0 (am_u M (3, 0, 35) s1.toNatClampNeg s0) N))
set_option maxRecDepth 10000 in
theorem k_X12_statement_p62 {d : Nat} {dm : List am_C} (h3 : am_d3 dm) {post : Int32 → am_I → am_N → Prop} (l1 : Int32) (s0 : Int32) (s1 : Int32) (M : am_I) (N : am_N) (h : w_X12_statement_p62 post l1 s0 s1 M N) : jg (d + 45) mX12_statement dm 62 [(0, .inr (.inr (3, 0, 0))), (1, .inl l1)] [.inl s0, .inl s1, .inr (.inr (3, 0, 35))] M N (am_pi post) := by
  obtain ⟨hq, h⟩ := h
  refine j_iast dX12_statement_62 (h3 35 (by decide)) rfl hq ?_
  refine j_aload_n 0 dX12_statement_63 rfl ?_
  refine j_getR (b := (3, 0, 35)) dX12_statement_64 fsRX12_121 (h3 0 (by decide)) rfl rfl ?_
  refine j_iload_n 1 dX12_statement_67 rfl ?_
  obtain ⟨hq, h⟩ := h
  refine j_iald dX12_statement_68 (h3 35 (by decide)) rfl hq ?_
  refine j_iconst (v := (-1)) dX12_statement_69 (by decide) ?_
  refine j_icmp_ne (tgt := 75) dX12_statement_70 (by decide) (fun hc => ?_) (fun hc => ?_)
  · replace h := h.1 hc
    refine j_aload_n 0 dX12_statement_75 rfl ?_
    refine j_iconst (v := 0) dX12_statement_76 (by decide) ?_
    refine j_putI dX12_statement_77 fwRX12_404 (h3 0 (by decide)) rfl ?_
    refine j_aload_n 0 dX12_statement_80 rfl ?_
    refine j_getR (b := (3, 0, 36)) dX12_statement_81 fsRX12_124 (h3 0 (by decide)) rfl rfl ?_
    refine j_iload_n 1 dX12_statement_84 rfl ?_
    refine j_aload_n 0 dX12_statement_85 rfl ?_
    refine j_getI dX12_statement_86 fsRX12_401 (h3 0 (by decide)) rfl ?_
    obtain ⟨hq, h⟩ := h
    refine j_iast dX12_statement_89 (h3 36 (by decide)) rfl hq ?_
    refine j_aload_n 0 dX12_statement_90 rfl ?_
    refine j_getR (b := (3, 0, 35)) dX12_statement_91 fsRX12_121 (h3 0 (by decide)) rfl rfl ?_
    refine j_iload_n 1 dX12_statement_94 rfl ?_
    obtain ⟨hq, h⟩ := h
    refine j_iald dX12_statement_95 (h3 35 (by decide)) rfl hq ?_
    refine j_iconst (v := 3) dX12_statement_96 (by decide) ?_
    refine j_icmp_ne (tgt := 109) dX12_statement_97 (by decide) (fun hc => ?_) (fun hc => ?_)
    · replace h := h.1 hc
      refine j_sub [0, 1] rfl ?_
      exact k_X12_statement_p109 h3 _ _ _ h
    · replace h := h.2 hc
      refine j_aload_n 0 dX12_statement_100 rfl ?_
      refine j_invV (As := []) dX12_statement_101 msRX12_416 mbX12_ex rfl rfl (Nat.le_of_ble_eq_true rfl) (Nat.le_of_ble_eq_true rfl) (by omega) (h3 0 (by decide)) rfl rfl (k_X12_ex (d := d + 0) h3 h) ?_
      rintro _ zM2 zN3 ⟨zr1, rfl, h⟩
      refine j_if_ne (tgt := 109) dX12_statement_104 (by decide) (fun hc => ?_) (fun hc => ?_)
      · replace h := h.1 hc
        refine j_sub [0, 1] rfl ?_
        exact k_X12_statement_p109 h3 _ _ _ h
      · replace h := h.2 hc
        refine j_iconst (v := 0) dX12_statement_107 (by decide) ?_
        exact j_zret dX12_statement_108 rfl (Or.inl rfl) ⟨_, rfl, h⟩
  · replace h := h.2 hc
    refine j_iconst (v := 0) dX12_statement_73 (by decide) ?_
    exact j_zret dX12_statement_74 rfl (Or.inl rfl) ⟨_, rfl, h⟩
def w_X12_statement (a1 : Int32) (M : am_I) (N : am_N) (post : Int32 → am_I → am_N → Prop) : Prop :=
  w_X12_takes 1952541541 M N (fun zr1 zM2 zN3 => ((zr1 = 0 → w_X12_takes 1819242347 zM2 zN3 (fun zr4 zM5 zN6 => ((zr4 = 0 → w_X12_takes 465557354085 zM5 zN6 (fun zr7 zM8 zN9 => ((zr7 = 0 → w_X12_takes 1734964837 zM8 zN9 (fun zr10 zM11 zN12 => ((zr10 = 0 → w_X12_statement_p62 post a1 (-1) a1 zM11 zN12) ∧ (¬ zr10 = 0 → w_X12_statement_p62 post a1 3 a1 zM11 zN12)))) ∧ (¬ zr7 = 0 → w_X12_statement_p62 post a1 2 a1 zM8 zN9)))) ∧ (¬ zr4 = 0 → w_X12_statement_p62 post a1 1 a1 zM5 zN6)))) ∧ (¬ zr1 = 0 → w_X12_statement_p62 post a1 0 a1 zM2 zN3)))
set_option maxRecDepth 10000 in
theorem k_X12_statement {d : Nat} {dm : List am_C} (h3 : am_d3 dm) {a1 : Int32} {M : am_I} {N : am_N} {post : Int32 → am_I → am_N → Prop} (h : w_X12_statement a1 M N post) : jg (d + 45) mX12_statement dm 0 [(0, .inr (.inr (3, 0, 0))), (1, .inl a1)] [] M N (am_pi post) := by
  refine j_aload_n 0 dX12_statement_0 rfl ?_
  refine j_getR (b := (3, 0, 35)) dX12_statement_1 fsRX12_121 (h3 0 (by decide)) rfl rfl ?_
  refine j_iload_n 1 dX12_statement_4 rfl ?_
  refine j_aload_n 0 dX12_statement_5 rfl ?_
  refine j_ldc2 (v := 1952541541) dX12_statement_6 cw_1844 ?_
  refine j_invV (As := [.inr (.inl 1952541541)]) dX12_statement_9 msRX12_442 mbX12_takes rfl rfl (Nat.le_of_ble_eq_true rfl) (Nat.le_of_ble_eq_true rfl) (by omega) (h3 0 (by decide)) rfl rfl (k_X12_takes (d := d + 41) h3 h) ?_
  rintro _ zM2 zN3 ⟨zr1, rfl, h⟩
  refine j_if_eq (tgt := 19) dX12_statement_12 (by decide) (fun hc => ?_) (fun hc => ?_)
  · replace h := h.1 hc
    refine j_aload_n 0 dX12_statement_19 rfl ?_
    refine j_ldc2 (v := 1819242347) dX12_statement_20 cw_1853 ?_
    refine j_invV (As := [.inr (.inl 1819242347)]) dX12_statement_23 msRX12_442 mbX12_takes rfl rfl (Nat.le_of_ble_eq_true rfl) (Nat.le_of_ble_eq_true rfl) (by omega) (h3 0 (by decide)) rfl rfl (k_X12_takes (d := d + 41) h3 h) ?_
    rintro _ zM5 zN6 ⟨zr4, rfl, h⟩
    refine j_if_eq (tgt := 33) dX12_statement_26 (by decide) (fun hc => ?_) (fun hc => ?_)
    · replace h := h.1 hc
      refine j_aload_n 0 dX12_statement_33 rfl ?_
      refine j_ldc2 (v := 465557354085) dX12_statement_34 cw_1854 ?_
      refine j_invV (As := [.inr (.inl 465557354085)]) dX12_statement_37 msRX12_442 mbX12_takes rfl rfl (Nat.le_of_ble_eq_true rfl) (Nat.le_of_ble_eq_true rfl) (by omega) (h3 0 (by decide)) rfl rfl (k_X12_takes (d := d + 41) h3 h) ?_
      rintro _ zM8 zN9 ⟨zr7, rfl, h⟩
      refine j_if_eq (tgt := 47) dX12_statement_40 (by decide) (fun hc => ?_) (fun hc => ?_)
      · replace h := h.1 hc
        refine j_aload_n 0 dX12_statement_47 rfl ?_
        refine j_ldc2 (v := 1734964837) dX12_statement_48 cw_1855 ?_
        refine j_invV (As := [.inr (.inl 1734964837)]) dX12_statement_51 msRX12_442 mbX12_takes rfl rfl (Nat.le_of_ble_eq_true rfl) (Nat.le_of_ble_eq_true rfl) (by omega) (h3 0 (by decide)) rfl rfl (k_X12_takes (d := d + 41) h3 h) ?_
        rintro _ zM11 zN12 ⟨zr10, rfl, h⟩
        refine j_if_eq (tgt := 61) dX12_statement_54 (by decide) (fun hc => ?_) (fun hc => ?_)
        · replace h := h.1 hc
          refine j_iconst (v := (-1)) dX12_statement_61 (by decide) ?_
          refine j_sub [0, 1] rfl ?_
          exact k_X12_statement_p62 h3 _ _ _ _ _ h
        · replace h := h.2 hc
          refine j_iconst (v := 3) dX12_statement_57 (by decide) ?_
          refine j_goto (tgt := 62) dX12_statement_58 (by decide) ?_
          refine j_sub [0, 1] rfl ?_
          exact k_X12_statement_p62 h3 _ _ _ _ _ h
      · replace h := h.2 hc
        refine j_iconst (v := 2) dX12_statement_43 (by decide) ?_
        refine j_goto (tgt := 62) dX12_statement_44 (by decide) ?_
        refine j_sub [0, 1] rfl ?_
        exact k_X12_statement_p62 h3 _ _ _ _ _ h
    · replace h := h.2 hc
      refine j_iconst (v := 1) dX12_statement_29 (by decide) ?_
      refine j_goto (tgt := 62) dX12_statement_30 (by decide) ?_
      refine j_sub [0, 1] rfl ?_
      exact k_X12_statement_p62 h3 _ _ _ _ _ h
  · replace h := h.2 hc
    refine j_iconst (v := 0) dX12_statement_15 (by decide) ?_
    refine j_goto (tgt := 62) dX12_statement_16 (by decide) ?_
    refine j_sub [0, 1] rfl ?_
    exact k_X12_statement_p62 h3 _ _ _ _ _ h
def w_X12_rules_p187 (post : Int32 → am_I → am_N → Prop) (l2 : Int32) (l3 : Int32) (s0 : Int32) (M : am_I) (N : am_N) : Prop :=
  ((¬ l3 = 0 → post (((am_u (am_u M (3, 0, 0) 51 s0) (3, 0, 0) 45 (((am_u M (3, 0, 0) 51 s0) (3, 0, 0) 45) + 1)) (3, 0, 0) 45) - 1) (am_u (am_u M (3, 0, 0) 51 s0) (3, 0, 0) 45 (((am_u M (3, 0, 0) 51 s0) (3, 0, 0) 45) + 1)) N) ∧ (l3 = 0 → post (-1) (am_u (am_u M (3, 0, 0) 51 s0) (3, 0, 0) 46 l2) N))
set_option maxRecDepth 10000 in
theorem k_X12_rules_p187 {d : Nat} {dm : List am_C} (h3 : am_d3 dm) {post : Int32 → am_I → am_N → Prop} (l2 : Int32) (l3 : Int32) (s0 : Int32) (M : am_I) (N : am_N) (h : w_X12_rules_p187 post l2 l3 s0 M N) : jg (d + 46) mX12_rules dm 187 [(0, .inr (.inr (3, 0, 0))), (2, .inl l2), (3, .inl l3)] [.inl s0, .inr (.inr (3, 0, 0))] M N (am_pi post) := by
  refine j_putI dX12_rules_187 fwRX12_115 (h3 0 (by decide)) rfl ?_
  refine j_iload_n 2 dX12_rules_190 rfl ?_
  refine j_if_ne (tgt := 201) dX12_rules_191 (by decide) (fun hc => ?_) (fun hc => ?_)
  · replace h := h.1 hc
    refine j_aload_n 0 dX12_rules_201 rfl ?_
    refine j_dup dX12_rules_202 rfl ?_
    refine j_getI dX12_rules_203 fsRX12_461 (h3 0 (by decide)) rfl ?_
    refine j_iconst (v := 1) dX12_rules_206 (by decide) ?_
    refine j_iadd dX12_rules_207 ?_
    refine j_putI dX12_rules_208 fwRX12_461 (h3 0 (by decide)) rfl ?_
    refine j_aload_n 0 dX12_rules_211 rfl ?_
    refine j_getI dX12_rules_212 fsRX12_461 (h3 0 (by decide)) rfl ?_
    refine j_iconst (v := 1) dX12_rules_215 (by decide) ?_
    refine j_isub dX12_rules_216 ?_
    exact j_iret dX12_rules_217 rfl ⟨_, rfl, h⟩
  · replace h := h.2 hc
    refine j_aload_n 0 dX12_rules_194 rfl ?_
    refine j_iload_n 1 dX12_rules_195 rfl ?_
    refine j_putI dX12_rules_196 fwRX12_401 (h3 0 (by decide)) rfl ?_
    refine j_iconst (v := (-1)) dX12_rules_199 (by decide) ?_
    exact j_iret dX12_rules_200 rfl ⟨_, rfl, h⟩
def w_X12_rules_p174 (post : Int32 → am_I → am_N → Prop) (l2 : Int32) (l3 : Int32) (M : am_I) (N : am_N) : Prop :=
  ((l3 = 0 → w_X12_rules_p187 post l2 l3 (M (3, 0, 0) 49) M N) ∧ (¬ l3 = 0 → w_X12_rules_p187 post l2 l3 (-1) M N))
set_option maxRecDepth 10000 in
theorem k_X12_rules_p174 {d : Nat} {dm : List am_C} (h3 : am_d3 dm) {post : Int32 → am_I → am_N → Prop} (l2 : Int32) (l3 : Int32) (M : am_I) (N : am_N) (h : w_X12_rules_p174 post l2 l3 M N) : jg (d + 46) mX12_rules dm 174 [(0, .inr (.inr (3, 0, 0))), (2, .inl l2), (3, .inl l3)] [] M N (am_pi post) := by
  refine j_aload_n 0 dX12_rules_174 rfl ?_
  refine j_iload_n 2 dX12_rules_175 rfl ?_
  refine j_if_eq (tgt := 183) dX12_rules_176 (by decide) (fun hc => ?_) (fun hc => ?_)
  · replace h := h.1 hc
    refine j_aload_n 0 dX12_rules_183 rfl ?_
    refine j_getI dX12_rules_184 fsRX12_366 (h3 0 (by decide)) rfl ?_
    refine j_sub [0, 1, 2] rfl ?_
    exact k_X12_rules_p187 h3 _ _ _ _ _ h
  · replace h := h.2 hc
    refine j_iconst (v := (-1)) dX12_rules_179 (by decide) ?_
    refine j_goto (tgt := 187) dX12_rules_180 (by decide) ?_
    refine j_sub [0, 1, 2] rfl ?_
    exact k_X12_rules_p187 h3 _ _ _ _ _ h
def w_X12_rules_p146 (post : Int32 → am_I → am_N → Prop) (zk88 : Int32 → Int32 → am_I → am_N → Prop) (l2 : Int32) (s0 : Int32) (M : am_I) (N : am_N) : Prop :=
  ((¬ s0 = 0 → vp_in (M (3, 0, 0) 45) 9 ∧ vp_in (M (3, 0, 0) 45) 9 ∧ w_X12_blanks (am_u M (3, 0, 34) (M (3, 0, 0) 45).toNatClampNeg ((M (3, 0, 34) (M (3, 0, 0) 45).toNatClampNeg) + 1)) N (fun zM1 zN2 => zk88 l2 s0 zM1 zN2)) ∧ (s0 = 0 → zk88 l2 s0 M N))
set_option maxRecDepth 10000 in
theorem k_X12_rules_p146 {d : Nat} {dm : List am_C} (h3 : am_d3 dm) {post : Int32 → am_I → am_N → Prop} {zk88 : Int32 → Int32 → am_I → am_N → Prop} (zhk88 : ∀ (l2 : Int32) (l3 : Int32) (M : am_I) (N : am_N), zk88 l2 l3 M N → jg (d + 46) mX12_rules dm 88 [(0, .inr (.inr (3, 0, 0))), (2, .inl l2), (3, .inl l3)] [] M N (am_pi post)) (l2 : Int32) (s0 : Int32) (M : am_I) (N : am_N) (h : w_X12_rules_p146 post zk88 l2 s0 M N) : jg (d + 46) mX12_rules dm 146 [(0, .inr (.inr (3, 0, 0))), (2, .inl l2)] [.inl s0] M N (am_pi post) := by
  refine j_istore_n dX12_rules_146 (by decide) rfl ?_
  refine j_iload_n 0 dX12_rules_147 rfl ?_
  refine j_if_ne (tgt := 154) dX12_rules_148 (by decide) (fun hc => ?_) (fun hc => ?_)
  · replace h := h.1 hc
    refine j_aload_n 1 dX12_rules_154 rfl ?_
    refine j_getR (b := (3, 0, 34)) dX12_rules_155 fsRX12_118 (h3 0 (by decide)) rfl rfl ?_
    refine j_aload_n 1 dX12_rules_158 rfl ?_
    refine j_getI dX12_rules_159 fsRX12_461 (h3 0 (by decide)) rfl ?_
    refine j_dup2 dX12_rules_162 rfl rfl ?_
    obtain ⟨hq, h⟩ := h
    refine j_iald dX12_rules_163 (h3 34 (by decide)) rfl hq ?_
    refine j_iconst (v := 1) dX12_rules_164 (by decide) ?_
    refine j_iadd dX12_rules_165 ?_
    obtain ⟨hq, h⟩ := h
    refine j_iast dX12_rules_166 (h3 34 (by decide)) rfl hq ?_
    refine j_aload_n 1 dX12_rules_167 rfl ?_
    refine j_invV (As := []) dX12_rules_168 msRX12_372 mbX12_blanks rfl rfl (Nat.le_of_ble_eq_true rfl) (Nat.le_of_ble_eq_true rfl) (by omega) (h3 0 (by decide)) rfl rfl (k_X12_blanks (d := d + 44) h3 h) ?_
    rintro _ zM1 zN2 ⟨rfl, h⟩
    refine j_goto (tgt := 88) dX12_rules_171 (by decide) ?_
    refine j_sub [1, 2, 0] rfl ?_
    exact zhk88 _ _ _ _ h
  · replace h := h.2 hc
    refine j_goto (tgt := 88) dX12_rules_151 (by decide) ?_
    refine j_sub [1, 2, 0] rfl ?_
    exact zhk88 _ _ _ _ h
def w_X12_rules_p88_b (post : Int32 → am_I → am_N → Prop) (zk88 : Int32 → Int32 → am_I → am_N → Prop) (l2 : Int32) (l3 : Int32) (M : am_I) (N : am_N) : Prop :=
  ((l3 = 0 → w_X12_rules_p174 post l2 l3 M N) ∧ (¬ l3 = 0 → (((M (3, 0, 0) 48) ≤ (M (3, 0, 0) 49) → w_X12_rules_p174 post l2 l3 M N) ∧ (¬ (M (3, 0, 0) 48) ≤ (M (3, 0, 0) 49) → vp_in (M (3, 0, 0) 45) 9 ∧ ((24 ≤ (M (3, 0, 34) (M (3, 0, 0) 45).toNatClampNeg) → w_X12_rules_p146 post zk88 l2 0 M N) ∧ (¬ 24 ≤ (M (3, 0, 34) (M (3, 0, 0) 45).toNatClampNeg) → vp_in (M (3, 0, 0) 45) 9 ∧ w_X12_statement ((24 * (M (3, 0, 0) 45)) + (M (3, 0, 34) (M (3, 0, 0) 45).toNatClampNeg)) M N (fun zr1 zM2 zN3 => ((zr1 = 0 → w_X12_rules_p146 post zk88 l2 0 zM2 zN3) ∧ (¬ zr1 = 0 → w_X12_rules_p146 post zk88 l2 1 zM2 zN3)))))))))
noncomputable def w_X12_rules_p88 (post : Int32 → am_I → am_N → Prop) (n : Nat) : Int32 → Int32 → am_I → am_N → Prop :=
  Nat.rec (motive := fun _ => Int32 → Int32 → am_I → am_N → Prop) (fun _ _ _ _ => False) (fun _ zk => w_X12_rules_p88_b post zk) n
theorem w_X12_rules_p88_s (post : Int32 → am_I → am_N → Prop) (n : Nat) (l2 : Int32) (l3 : Int32) (M : am_I) (N : am_N) : w_X12_rules_p88 post (n + 1) l2 l3 M N = w_X12_rules_p88_b post (w_X12_rules_p88 post n) l2 l3 M N := rfl
set_option maxRecDepth 10000 in
theorem k_X12_rules_p88 {d : Nat} {dm : List am_C} (h3 : am_d3 dm) {post : Int32 → am_I → am_N → Prop} : ∀ (n : Nat) (l2 : Int32) (l3 : Int32) (M : am_I) (N : am_N), w_X12_rules_p88 post n l2 l3 M N → jg (d + 46) mX12_rules dm 88 [(0, .inr (.inr (3, 0, 0))), (2, .inl l2), (3, .inl l3)] [] M N (am_pi post) := by
  intro n
  induction n with
  | zero => intro l2 l3 M N h; exact h.elim
  | succ n zih =>
    intro l2 l3 M N h
    replace h : w_X12_rules_p88_b post (w_X12_rules_p88 post n) l2 l3 M N := h
    refine j_iload_n 2 dX12_rules_88 rfl ?_
    refine j_if_eq (tgt := 174) dX12_rules_89 (by decide) (fun hc => ?_) (fun hc => ?_)
    · replace h := h.1 hc
      refine j_sub [0, 1, 2] rfl ?_
      exact k_X12_rules_p174 h3 _ _ _ _ h
    · replace h := h.2 hc
      refine j_aload_n 0 dX12_rules_92 rfl ?_
      refine j_getI dX12_rules_93 fsRX12_366 (h3 0 (by decide)) rfl ?_
      refine j_aload_n 0 dX12_rules_96 rfl ?_
      refine j_getI dX12_rules_97 fsRX12_369 (h3 0 (by decide)) rfl ?_
      refine j_icmp_ge (tgt := 174) dX12_rules_100 (by decide) (fun hc => ?_) (fun hc => ?_)
      · replace h := h.1 hc
        refine j_sub [0, 1, 2] rfl ?_
        exact k_X12_rules_p174 h3 _ _ _ _ h
      · replace h := h.2 hc
        refine j_aload_n 0 dX12_rules_103 rfl ?_
        refine j_getR (b := (3, 0, 34)) dX12_rules_104 fsRX12_118 (h3 0 (by decide)) rfl rfl ?_
        refine j_aload_n 0 dX12_rules_107 rfl ?_
        refine j_getI dX12_rules_108 fsRX12_461 (h3 0 (by decide)) rfl ?_
        obtain ⟨hq, h⟩ := h
        refine j_iald dX12_rules_111 (h3 34 (by decide)) rfl hq ?_
        refine j_bipush (v := 24) dX12_rules_112 (by decide) ?_
        refine j_icmp_ge (tgt := 145) dX12_rules_114 (by decide) (fun hc => ?_) (fun hc => ?_)
        · replace h := h.1 hc
          refine j_iconst (v := 0) dX12_rules_145 (by decide) ?_
          refine j_sub [0, 1] rfl ?_
          exact k_X12_rules_p146 h3 zih _ _ _ _ h
        · replace h := h.2 hc
          refine j_aload_n 0 dX12_rules_117 rfl ?_
          refine j_bipush (v := 24) dX12_rules_118 (by decide) ?_
          refine j_aload_n 0 dX12_rules_120 rfl ?_
          refine j_getI dX12_rules_121 fsRX12_461 (h3 0 (by decide)) rfl ?_
          refine j_imul dX12_rules_124 ?_
          refine j_aload_n 0 dX12_rules_125 rfl ?_
          refine j_getR (b := (3, 0, 34)) dX12_rules_126 fsRX12_118 (h3 0 (by decide)) rfl rfl ?_
          refine j_aload_n 0 dX12_rules_129 rfl ?_
          refine j_getI dX12_rules_130 fsRX12_461 (h3 0 (by decide)) rfl ?_
          obtain ⟨hq, h⟩ := h
          refine j_iald dX12_rules_133 (h3 34 (by decide)) rfl hq ?_
          refine j_iadd dX12_rules_134 ?_
          refine j_invV (As := [.inl ((24 * (M (3, 0, 0) 45)) + (M (3, 0, 34) (M (3, 0, 0) 45).toNatClampNeg))]) dX12_rules_135 msRX12_464 mbX12_statement rfl rfl (Nat.le_of_ble_eq_true rfl) (Nat.le_of_ble_eq_true rfl) (by omega) (h3 0 (by decide)) rfl rfl (k_X12_statement (d := d + 0) h3 h) ?_
          rintro _ zM2 zN3 ⟨zr1, rfl, h⟩
          refine j_if_eq (tgt := 145) dX12_rules_138 (by decide) (fun hc => ?_) (fun hc => ?_)
          · replace h := h.1 hc
            refine j_iconst (v := 0) dX12_rules_145 (by decide) ?_
            refine j_sub [0, 1] rfl ?_
            exact k_X12_rules_p146 h3 zih _ _ _ _ h
          · replace h := h.2 hc
            refine j_iconst (v := 1) dX12_rules_141 (by decide) ?_
            refine j_goto (tgt := 146) dX12_rules_142 (by decide) ?_
            refine j_sub [0, 1] rfl ?_
            exact k_X12_rules_p146 h3 zih _ _ _ _ h
def w_X12_rules_p29_b (post : Int32 → am_I → am_N → Prop) (zk29 : Int32 → Int32 → am_I → am_N → Prop) (l1 : Int32) (l2 : Int32) (M : am_I) (N : am_N) : Prop :=
  ((l1 ≤ l2 → ∀ zv1 : Int32, zv1 = (am_u (am_u (am_u M (3, 0, 0) 48 l1) (3, 0, 0) 47 0) (3, 0, 0) 49 0) (3, 0, 0) 46 → vp_in ((am_u (am_u (am_u M (3, 0, 0) 48 l1) (3, 0, 0) 47 0) (3, 0, 0) 49 0) (3, 0, 0) 45) 9 ∧ w_X12_blanks (am_u (am_u (am_u (am_u M (3, 0, 0) 48 l1) (3, 0, 0) 47 0) (3, 0, 0) 49 0) (3, 0, 34) ((am_u (am_u (am_u M (3, 0, 0) 48 l1) (3, 0, 0) 47 0) (3, 0, 0) 49 0) (3, 0, 0) 45).toNatClampNeg 0) N (fun zM2 zN3 => ∃ n, w_X12_rules_p88 post n zv1 1 zM2 zN3)) ∧ (¬ l1 ≤ l2 → vp_in l2 500 ∧ vp_in l2 500 ∧ zk29 l1 (l2 + 1) (am_u M (3, 0, 44) l2.toNatClampNeg (vp_nar .byte (M (3, 0, 43) l2.toNatClampNeg))) N))
noncomputable def w_X12_rules_p29 (post : Int32 → am_I → am_N → Prop) (n : Nat) : Int32 → Int32 → am_I → am_N → Prop :=
  Nat.rec (motive := fun _ => Int32 → Int32 → am_I → am_N → Prop) (fun _ _ _ _ => False) (fun _ zk => w_X12_rules_p29_b post zk) n
theorem w_X12_rules_p29_s (post : Int32 → am_I → am_N → Prop) (n : Nat) (l1 : Int32) (l2 : Int32) (M : am_I) (N : am_N) : w_X12_rules_p29 post (n + 1) l1 l2 M N = w_X12_rules_p29_b post (w_X12_rules_p29 post n) l1 l2 M N := rfl
set_option maxRecDepth 10000 in
theorem k_X12_rules_p29 {d : Nat} {dm : List am_C} (h3 : am_d3 dm) {post : Int32 → am_I → am_N → Prop} : ∀ (n : Nat) (l1 : Int32) (l2 : Int32) (M : am_I) (N : am_N), w_X12_rules_p29 post n l1 l2 M N → jg (d + 46) mX12_rules dm 29 [(0, .inr (.inr (3, 0, 0))), (1, .inl l1), (2, .inl l2)] [] M N (am_pi post) := by
  intro n
  induction n with
  | zero => intro l1 l2 M N h; exact h.elim
  | succ n zih =>
    intro l1 l2 M N h
    replace h : w_X12_rules_p29_b post (w_X12_rules_p29 post n) l1 l2 M N := h
    refine j_iload_n 2 dX12_rules_29 rfl ?_
    refine j_iload_n 1 dX12_rules_30 rfl ?_
    refine j_icmp_ge (tgt := 52) dX12_rules_31 (by decide) (fun hc => ?_) (fun hc => ?_)
    · replace h := h.1 hc
      refine j_aload_n 0 dX12_rules_52 rfl ?_
      refine j_iload_n 1 dX12_rules_53 rfl ?_
      refine j_putI dX12_rules_54 fwRX12_369 (h3 0 (by decide)) rfl ?_
      refine j_aload_n 0 dX12_rules_57 rfl ?_
      refine j_iconst (v := 0) dX12_rules_58 (by decide) ?_
      refine j_putI dX12_rules_59 fwRX12_360 (h3 0 (by decide)) rfl ?_
      refine j_aload_n 0 dX12_rules_62 rfl ?_
      refine j_iconst (v := 0) dX12_rules_63 (by decide) ?_
      refine j_putI dX12_rules_64 fwRX12_366 (h3 0 (by decide)) rfl ?_
      refine j_aload_n 0 dX12_rules_67 rfl ?_
      refine j_getI dX12_rules_68 fsRX12_401 (h3 0 (by decide)) rfl ?_
      refine j_topi (fun zv1 hzv1 => ?_)
      replace h := h zv1 hzv1
      refine j_istore_n dX12_rules_71 (by decide) rfl ?_
      refine j_aload_n 1 dX12_rules_72 rfl ?_
      refine j_getR (b := (3, 0, 34)) dX12_rules_73 fsRX12_118 (h3 0 (by decide)) rfl rfl ?_
      refine j_aload_n 1 dX12_rules_76 rfl ?_
      refine j_getI dX12_rules_77 fsRX12_461 (h3 0 (by decide)) rfl ?_
      refine j_iconst (v := 0) dX12_rules_80 (by decide) ?_
      obtain ⟨hq, h⟩ := h
      refine j_iast dX12_rules_81 (h3 34 (by decide)) rfl hq ?_
      refine j_iconst (v := 1) dX12_rules_82 (by decide) ?_
      refine j_istore_n dX12_rules_83 (by decide) rfl ?_
      refine j_aload_n 2 dX12_rules_84 rfl ?_
      refine j_invV (As := []) dX12_rules_85 msRX12_372 mbX12_blanks rfl rfl (Nat.le_of_ble_eq_true rfl) (Nat.le_of_ble_eq_true rfl) (by omega) (h3 0 (by decide)) rfl rfl (k_X12_blanks (d := d + 44) h3 h) ?_
      rintro _ zM2 zN3 ⟨rfl, h⟩
      refine j_sub [2, 1, 0] rfl ?_
      obtain ⟨n, h⟩ := h
      exact k_X12_rules_p88 h3 n _ _ _ _ h
    · replace h := h.2 hc
      refine j_aload_n 0 dX12_rules_34 rfl ?_
      refine j_getR (b := (3, 0, 44)) dX12_rules_35 fsRX12_149 (h3 0 (by decide)) rfl rfl ?_
      refine j_iload_n 2 dX12_rules_38 rfl ?_
      refine j_aload_n 0 dX12_rules_39 rfl ?_
      refine j_getR (b := (3, 0, 43)) dX12_rules_40 fsRX12_145 (h3 0 (by decide)) rfl rfl ?_
      refine j_iload_n 2 dX12_rules_43 rfl ?_
      obtain ⟨hq, h⟩ := h
      refine j_bald dX12_rules_44 (h3 43 (by decide)) rfl hq ?_
      obtain ⟨hq, h⟩ := h
      refine j_bast dX12_rules_45 (h3 44 (by decide)) rfl hq ?_
      refine j_iinc 2 dX12_rules_46 rfl rfl (by decide) rfl ?_
      refine j_goto (tgt := 29) dX12_rules_49 (by decide) ?_
      refine j_sub [1, 2, 0] rfl ?_
      exact zih _ _ _ _ h
def w_X12_rules (a1 : Int32) (M : am_I) (N : am_N) (post : Int32 → am_I → am_N → Prop) : Prop :=
  w_X12_isIn a1 0 (M (3, 0, 0) 47) M N (fun zr1 zM2 zN3 => ((¬ zr1 = 0 → ((¬ (zM2 (3, 0, 0) 45) = 8 → ∃ n, w_X12_rules_p29 post n a1 0 zM2 zN3) ∧ ((zM2 (3, 0, 0) 45) = 8 → post (-3) zM2 zN3))) ∧ (zr1 = 0 → post (-2) zM2 zN3)))
set_option maxRecDepth 10000 in
theorem k_X12_rules {d : Nat} {dm : List am_C} (h3 : am_d3 dm) {a1 : Int32} {M : am_I} {N : am_N} {post : Int32 → am_I → am_N → Prop} (h : w_X12_rules a1 M N post) : jg (d + 46) mX12_rules dm 0 [(0, .inr (.inr (3, 0, 0))), (1, .inl a1)] [] M N (am_pi post) := by
  refine j_iload_n 1 dX12_rules_0 rfl ?_
  refine j_iconst (v := 0) dX12_rules_1 (by decide) ?_
  refine j_aload_n 0 dX12_rules_2 rfl ?_
  refine j_getI dX12_rules_3 fsRX12_360 (h3 0 (by decide)) rfl ?_
  refine j_invS (As := [.inl a1, .inl 0, .inl (M (3, 0, 0) 47)]) dX12_rules_6 msRX12_162 mbX12_isIn rfl rfl (Nat.le_of_ble_eq_true rfl) (Nat.le_of_ble_eq_true rfl) (by omega) (k_X12_isIn (d := d + 44)  h) ?_
  rintro _ zM2 zN3 ⟨zr1, rfl, h⟩
  refine j_if_ne (tgt := 15) dX12_rules_9 (by decide) (fun hc => ?_) (fun hc => ?_)
  · replace h := h.1 hc
    refine j_aload_n 0 dX12_rules_15 rfl ?_
    refine j_getI dX12_rules_16 fsRX12_461 (h3 0 (by decide)) rfl ?_
    refine j_bipush (v := 8) dX12_rules_19 (by decide) ?_
    refine j_icmp_ne (tgt := 27) dX12_rules_21 (by decide) (fun hc => ?_) (fun hc => ?_)
    · replace h := h.1 hc
      refine j_iconst (v := 0) dX12_rules_27 (by decide) ?_
      refine j_istore_n dX12_rules_28 (by decide) rfl ?_
      refine j_sub [1, 2, 0] rfl ?_
      obtain ⟨n, h⟩ := h
      exact k_X12_rules_p29 h3 n _ _ _ _ h
    · replace h := h.2 hc
      refine j_bipush (v := (-3)) dX12_rules_24 (by decide) ?_
      exact j_iret dX12_rules_26 rfl ⟨_, rfl, h⟩
  · replace h := h.2 hc
    refine j_bipush (v := (-2)) dX12_rules_12 (by decide) ?_
    exact j_iret dX12_rules_14 rfl ⟨_, rfl, h⟩
