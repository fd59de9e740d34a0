theorem d_Mo_action_154 : decode b_Mo_action 154 = .ok (.aload_n 0, 1) := by decide +kernel
theorem d_Mo_action_155 : decode b_Mo_action 155 = .ok (.bipush 61, 2) := by decide +kernel
theorem d_Mo_action_157 : decode b_Mo_action 157 = .ok (.invokevirtual 145, 3) := by decide +kernel
theorem d_Mo_action_160 : decode b_Mo_action 160 = .ok (.ifCond .ne 25, 3) := by decide +kernel
theorem d_Mo_action_163 : decode b_Mo_action 163 = .ok (.iconst 0, 1) := by decide +kernel
theorem d_Mo_action_164 : decode b_Mo_action 164 = .ok (.ireturn, 1) := by decide +kernel
theorem d_Mo_action_165 : decode b_Mo_action 165 = .ok (.aload_n 0, 1) := by decide +kernel
theorem d_Mo_action_166 : decode b_Mo_action 166 = .ok (.bipush 33, 2) := by decide +kernel
theorem d_Mo_action_168 : decode b_Mo_action 168 = .ok (.invokevirtual 145, 3) := by decide +kernel
theorem d_Mo_action_171 : decode b_Mo_action 171 = .ok (.ifCond .ne 14, 3) := by decide +kernel
theorem d_Mo_action_174 : decode b_Mo_action 174 = .ok (.aload_n 0, 1) := by decide +kernel
theorem d_Mo_action_175 : decode b_Mo_action 175 = .ok (.bipush 63, 2) := by decide +kernel
theorem d_Mo_action_177 : decode b_Mo_action 177 = .ok (.invokevirtual 145, 3) := by decide +kernel
theorem d_Mo_action_180 : decode b_Mo_action 180 = .ok (.ifCond .ne 5, 3) := by decide +kernel
theorem d_Mo_action_183 : decode b_Mo_action 183 = .ok (.iconst 0, 1) := by decide +kernel
theorem d_Mo_action_184 : decode b_Mo_action 184 = .ok (.ireturn, 1) := by decide +kernel
theorem d_Mo_action_185 : decode b_Mo_action 185 = .ok (.aload_n 0, 1) := by decide +kernel
theorem d_Mo_action_186 : decode b_Mo_action 186 = .ok (.getfield 31, 3) := by decide +kernel
theorem d_Mo_action_189 : decode b_Mo_action 189 = .ok (.iload_n 1, 1) := by decide +kernel
theorem d_Mo_action_190 : decode b_Mo_action 190 = .ok (.aload_n 0, 1) := by decide +kernel
theorem d_Mo_action_191 : decode b_Mo_action 191 = .ok (.getfield 121, 3) := by decide +kernel
theorem d_Mo_action_194 : decode b_Mo_action 194 = .ok (.iastore, 1) := by decide +kernel
theorem d_Mo_action_195 : decode b_Mo_action 195 = .ok (.aload_n 0, 1) := by decide +kernel
theorem d_Mo_action_196 : decode b_Mo_action 196 = .ok (.invokevirtual 149, 3) := by decide +kernel
theorem d_Mo_action_199 : decode b_Mo_action 199 = .ok (.ireturn, 1) := by decide +kernel
theorem d_Mo_rule_0 : decode b_Mo_rule 0 = .ok (.aload_n 0, 1) := by decide +kernel
theorem d_Mo_rule_1 : decode b_Mo_rule 1 = .ok (.invokevirtual 117, 3) := by decide +kernel
theorem d_Mo_rule_4 : decode b_Mo_rule 4 = .ok (.bipush 101, 2) := by decide +kernel
theorem d_Mo_rule_6 : decode b_Mo_rule 6 = .ok (.if_icmp .eq 14, 3) := by decide +kernel
theorem d_Mo_rule_9 : decode b_Mo_rule 9 = .ok (.aload_n 0, 1) := by decide +kernel
theorem d_Mo_rule_10 : decode b_Mo_rule 10 = .ok (.invokevirtual 117, 3) := by decide +kernel
theorem d_Mo_rule_13 : decode b_Mo_rule 13 = .ok (.bipush 120, 2) := by decide +kernel
theorem d_Mo_rule_15 : decode b_Mo_rule 15 = .ok (.if_icmp .eq 5, 3) := by decide +kernel
theorem d_Mo_rule_18 : decode b_Mo_rule 18 = .ok (.iconst 0, 1) := by decide +kernel
theorem d_Mo_rule_19 : decode b_Mo_rule 19 = .ok (.ireturn, 1) := by decide +kernel
theorem d_Mo_rule_20 : decode b_Mo_rule 20 = .ok (.aload_n 0, 1) := by decide +kernel
theorem d_Mo_rule_21 : decode b_Mo_rule 21 = .ok (.invokevirtual 117, 3) := by decide +kernel
theorem d_Mo_rule_24 : decode b_Mo_rule 24 = .ok (.bipush 120, 2) := by decide +kernel
theorem d_Mo_rule_26 : decode b_Mo_rule 26 = .ok (.if_icmp .ne 7, 3) := by decide +kernel
theorem d_Mo_rule_29 : decode b_Mo_rule 29 = .ok (.iconst 1, 1) := by decide +kernel
theorem d_Mo_rule_30 : decode b_Mo_rule 30 = .ok (.goto 4, 3) := by decide +kernel
theorem d_Mo_rule_33 : decode b_Mo_rule 33 = .ok (.iconst 0, 1) := by decide +kernel
theorem d_Mo_rule_34 : decode b_Mo_rule 34 = .ok (.istore_n 1, 1) := by decide +kernel
theorem d_Mo_rule_35 : decode b_Mo_rule 35 = .ok (.aload_n 0, 1) := by decide +kernel
theorem d_Mo_rule_36 : decode b_Mo_rule 36 = .ok (.dup, 1) := by decide +kernel
theorem d_Mo_rule_37 : decode b_Mo_rule 37 = .ok (.getfield 114, 3) := by decide +kernel
theorem d_Mo_rule_40 : decode b_Mo_rule 40 = .ok (.iconst 1, 1) := by decide +kernel
theorem d_Mo_rule_41 : decode b_Mo_rule 41 = .ok (.iadd, 1) := by decide +kernel
theorem d_Mo_rule_42 : decode b_Mo_rule 42 = .ok (.putfield 114, 3) := by decide +kernel
theorem d_Mo_rule_45 : decode b_Mo_rule 45 = .ok (.aload_n 0, 1) := by decide +kernel
theorem d_Mo_rule_46 : decode b_Mo_rule 46 = .ok (.invokevirtual 117, 3) := by decide +kernel
theorem d_Mo_rule_49 : decode b_Mo_rule 49 = .ok (.bipush 48, 2) := by decide +kernel
theorem d_Mo_rule_51 : decode b_Mo_rule 51 = .ok (.bipush 55, 2) := by decide +kernel
theorem d_Mo_rule_53 : decode b_Mo_rule 53 = .ok (.invokestatic 103, 3) := by decide +kernel
theorem d_Mo_rule_56 : decode b_Mo_rule 56 = .ok (.ifCond .ne 5, 3) := by decide +kernel
theorem d_Mo_rule_59 : decode b_Mo_rule 59 = .ok (.iconst 0, 1) := by decide +kernel
theorem d_Mo_rule_60 : decode b_Mo_rule 60 = .ok (.ireturn, 1) := by decide +kernel
theorem d_Mo_rule_61 : decode b_Mo_rule 61 = .ok (.aload_n 0, 1) := by decide +kernel
theorem d_Mo_rule_62 : decode b_Mo_rule 62 = .ok (.aload_n 0, 1) := by decide +kernel
theorem d_Mo_rule_63 : decode b_Mo_rule 63 = .ok (.invokevirtual 117, 3) := by decide +kernel
theorem d_Mo_rule_66 : decode b_Mo_rule 66 = .ok (.bipush 48, 2) := by decide +kernel
theorem d_Mo_rule_68 : decode b_Mo_rule 68 = .ok (.isub, 1) := by decide +kernel
theorem d_Mo_rule_69 : decode b_Mo_rule 69 = .ok (.iload_n 1, 1) := by decide +kernel
theorem d_Mo_rule_70 : decode b_Mo_rule 70 = .ok (.ifCond .eq 8, 3) := by decide +kernel
theorem d_Mo_rule_73 : decode b_Mo_rule 73 = .ok (.bipush 8, 2) := by decide +kernel
theorem d_Mo_rule_75 : decode b_Mo_rule 75 = .ok (.goto 4, 3) := by decide +kernel
theorem d_Mo_rule_78 : decode b_Mo_rule 78 = .ok (.iconst 0, 1) := by decide +kernel
theorem d_Mo_rule_79 : decode b_Mo_rule 79 = .ok (.iadd, 1) := by decide +kernel
theorem d_Mo_rule_80 : decode b_Mo_rule 80 = .ok (.putfield 152, 3) := by decide +kernel
theorem d_Mo_rule_83 : decode b_Mo_rule 83 = .ok (.aload_n 0, 1) := by decide +kernel
theorem d_Mo_rule_84 : decode b_Mo_rule 84 = .ok (.dup, 1) := by decide +kernel
theorem d_Mo_rule_85 : decode b_Mo_rule 85 = .ok (.getfield 114, 3) := by decide +kernel
theorem d_Mo_rule_88 : decode b_Mo_rule 88 = .ok (.iconst 1, 1) := by decide +kernel
theorem d_Mo_rule_89 : decode b_Mo_rule 89 = .ok (.iadd, 1) := by decide +kernel
theorem d_Mo_rule_90 : decode b_Mo_rule 90 = .ok (.putfield 114, 3) := by decide +kernel
theorem d_Mo_rule_93 : decode b_Mo_rule 93 = .ok (.aload_n 0, 1) := by decide +kernel
theorem d_Mo_rule_94 : decode b_Mo_rule 94 = .ok (.iconst (-1), 1) := by decide +kernel
theorem d_Mo_rule_95 : decode b_Mo_rule 95 = .ok (.putfield 155, 3) := by decide +kernel
theorem d_Mo_rule_98 : decode b_Mo_rule 98 = .ok (.aload_n 0, 1) := by decide +kernel
theorem d_Mo_rule_99 : decode b_Mo_rule 99 = .ok (.bipush 47, 2) := by decide +kernel
theorem d_Mo_rule_101 : decode b_Mo_rule 101 = .ok (.invokevirtual 145, 3) := by decide +kernel
theorem d_Mo_rule_104 : decode b_Mo_rule 104 = .ok (.ifCond .eq 29, 3) := by decide +kernel
theorem d_Mo_rule_107 : decode b_Mo_rule 107 = .ok (.aload_n 0, 1) := by decide +kernel
theorem d_Mo_rule_108 : decode b_Mo_rule 108 = .ok (.aload_n 0, 1) := by decide +kernel
theorem d_Mo_rule_109 : decode b_Mo_rule 109 = .ok (.getfield 121, 3) := by decide +kernel
theorem d_Mo_rule_112 : decode b_Mo_rule 112 = .ok (.putfield 155, 3) := by decide +kernel
theorem d_Mo_rule_115 : decode b_Mo_rule 115 = .ok (.aload_n 0, 1) := by decide +kernel
theorem d_Mo_rule_116 : decode b_Mo_rule 116 = .ok (.invokevirtual 149, 3) := by decide +kernel
theorem d_Mo_rule_119 : decode b_Mo_rule 119 = .ok (.ifCond .eq 12, 3) := by decide +kernel
theorem d_Mo_rule_122 : decode b_Mo_rule 122 = .ok (.aload_n 0, 1) := by decide +kernel
theorem d_Mo_rule_123 : decode b_Mo_rule 123 = .ok (.bipush 47, 2) := by decide +kernel
theorem d_Mo_rule_125 : decode b_Mo_rule 125 = .ok (.invokevirtual 145, 3) := by decide +kernel
theorem d_Mo_rule_128 : decode b_Mo_rule 128 = .ok (.ifCond .ne 5, 3) := by decide +kernel
theorem d_Mo_rule_131 : decode b_Mo_rule 131 = .ok (.iconst 0, 1) := by decide +kernel
theorem d_Mo_rule_132 : decode b_Mo_rule 132 = .ok (.ireturn, 1) := by decide +kernel
theorem d_Mo_rule_133 : decode b_Mo_rule 133 = .ok (.aload_n 0, 1) := by decide +kernel
theorem d_Mo_rule_134 : decode b_Mo_rule 134 = .ok (.bipush 123, 2) := by decide +kernel
theorem d_Mo_rule_136 : decode b_Mo_rule 136 = .ok (.invokevirtual 145, 3) := by decide +kernel
theorem d_Mo_rule_139 : decode b_Mo_rule 139 = .ok (.ifCond .ne 5, 3) := by decide +kernel
theorem d_Mo_rule_142 : decode b_Mo_rule 142 = .ok (.iconst 0, 1) := by decide +kernel
theorem d_Mo_rule_143 : decode b_Mo_rule 143 = .ok (.ireturn, 1) := by decide +kernel
theorem d_Mo_rule_144 : decode b_Mo_rule 144 = .ok (.aload_n 0, 1) := by decide +kernel
theorem d_Mo_rule_145 : decode b_Mo_rule 145 = .ok (.iconst 0, 1) := by decide +kernel
theorem d_Mo_rule_146 : decode b_Mo_rule 146 = .ok (.putfield 158, 3) := by decide +kernel
theorem d_Mo_rule_149 : decode b_Mo_rule 149 = .ok (.aload_n 0, 1) := by decide +kernel
theorem d_Mo_rule_150 : decode b_Mo_rule 150 = .ok (.sipush 288, 3) := by decide +kernel
theorem d_Mo_rule_153 : decode b_Mo_rule 153 = .ok (.aload_n 0, 1) := by decide +kernel
theorem d_Mo_rule_154 : decode b_Mo_rule 154 = .ok (.getfield 158, 3) := by decide +kernel
theorem d_Mo_rule_157 : decode b_Mo_rule 157 = .ok (.iadd, 1) := by decide +kernel
theorem d_Mo_rule_158 : decode b_Mo_rule 158 = .ok (.invokevirtual 161, 3) := by decide +kernel
theorem d_Mo_rule_161 : decode b_Mo_rule 161 = .ok (.ifCond .ne 5, 3) := by decide +kernel
theorem d_Mo_rule_164 : decode b_Mo_rule 164 = .ok (.iconst 0, 1) := by decide +kernel
theorem d_Mo_rule_165 : decode b_Mo_rule 165 = .ok (.ireturn, 1) := by decide +kernel
theorem d_Mo_rule_166 : decode b_Mo_rule 166 = .ok (.aload_n 0, 1) := by decide +kernel
theorem d_Mo_rule_167 : decode b_Mo_rule 167 = .ok (.dup, 1) := by decide +kernel
theorem d_Mo_rule_168 : decode b_Mo_rule 168 = .ok (.getfield 158, 3) := by decide +kernel
theorem d_Mo_rule_171 : decode b_Mo_rule 171 = .ok (.iconst 1, 1) := by decide +kernel
theorem d_Mo_rule_172 : decode b_Mo_rule 172 = .ok (.iadd, 1) := by decide +kernel
theorem d_Mo_rule_173 : decode b_Mo_rule 173 = .ok (.putfield 158, 3) := by decide +kernel
theorem d_Mo_rule_176 : decode b_Mo_rule 176 = .ok (.aload_n 0, 1) := by decide +kernel
theorem d_Mo_rule_177 : decode b_Mo_rule 177 = .ok (.bipush 59, 2) := by decide +kernel
theorem d_Mo_rule_179 : decode b_Mo_rule 179 = .ok (.invokevirtual 145, 3) := by decide +kernel
theorem d_Mo_rule_182 : decode b_Mo_rule 182 = .ok (.ifCond .ne (-33), 3) := by decide +kernel
theorem d_Mo_rule_185 : decode b_Mo_rule 185 = .ok (.aload_n 0, 1) := by decide +kernel
theorem d_Mo_rule_186 : decode b_Mo_rule 186 = .ok (.bipush 125, 2) := by decide +kernel
theorem d_Mo_rule_188 : decode b_Mo_rule 188 = .ok (.invokevirtual 145, 3) := by decide +kernel
theorem d_Mo_rule_191 : decode b_Mo_rule 191 = .ok (.ifCond .eq 18, 3) := by decide +kernel
theorem d_Mo_rule_194 : decode b_Mo_rule 194 = .ok (.aload_n 0, 1) := by decide +kernel
theorem d_Mo_rule_195 : decode b_Mo_rule 195 = .ok (.getfield 114, 3) := by decide +kernel
theorem d_Mo_rule_198 : decode b_Mo_rule 198 = .ok (.aload_n 0, 1) := by decide +kernel
theorem d_Mo_rule_199 : decode b_Mo_rule 199 = .ok (.getfield 111, 3) := by decide +kernel
theorem d_Mo_rule_202 : decode b_Mo_rule 202 = .ok (.if_icmp .ne 7, 3) := by decide +kernel
theorem d_Mo_rule_205 : decode b_Mo_rule 205 = .ok (.iconst 1, 1) := by decide +kernel
theorem d_Mo_rule_206 : decode b_Mo_rule 206 = .ok (.goto 4, 3) := by decide +kernel
theorem d_Mo_rule_209 : decode b_Mo_rule 209 = .ok (.iconst 0, 1) := by decide +kernel
theorem d_Mo_rule_210 : decode b_Mo_rule 210 = .ok (.ireturn, 1) := by decide +kernel
theorem d_Mo_compile_0 : decode b_Mo_compile 0 = .ok (.aload_n 0, 1) := by decide +kernel
theorem d_Mo_compile_1 : decode b_Mo_compile 1 = .ok (.iload_n 1, 1) := by decide +kernel
theorem d_Mo_compile_2 : decode b_Mo_compile 2 = .ok (.iconst 0, 1) := by decide +kernel
theorem d_Mo_compile_3 : decode b_Mo_compile 3 = .ok (.iconst 5, 1) := by decide +kernel
theorem d_Mo_compile_4 : decode b_Mo_compile 4 = .ok (.invokestatic 103, 3) := by decide +kernel
theorem d_Mo_compile_7 : decode b_Mo_compile 7 = .ok (.invokevirtual 107, 3) := by decide +kernel
theorem d_Mo_compile_10 : decode b_Mo_compile 10 = .ok (.ifCond .eq 5, 3) := by decide +kernel
theorem d_Mo_compile_13 : decode b_Mo_compile 13 = .ok (.iconst 0, 1) := by decide +kernel
theorem d_Mo_compile_14 : decode b_Mo_compile 14 = .ok (.ireturn, 1) := by decide +kernel
theorem d_Mo_compile_15 : decode b_Mo_compile 15 = .ok (.aload_n 0, 1) := by decide +kernel
theorem d_Mo_compile_16 : decode b_Mo_compile 16 = .ok (.iconst 0, 1) := by decide +kernel
theorem d_Mo_compile_17 : decode b_Mo_compile 17 = .ok (.putfield 114, 3) := by decide +kernel
theorem d_Mo_compile_20 : decode b_Mo_compile 20 = .ok (.aload_n 0, 1) := by decide +kernel
theorem d_Mo_compile_21 : decode b_Mo_compile 21 = .ok (.sipush 1200, 3) := by decide +kernel
theorem d_Mo_compile_24 : decode b_Mo_compile 24 = .ok (.putfield 121, 3) := by decide +kernel
theorem d_Mo_compile_27 : decode b_Mo_compile 27 = .ok (.aload_n 0, 1) := by decide +kernel
theorem d_Mo_compile_28 : decode b_Mo_compile 28 = .ok (.invokevirtual 164, 3) := by decide +kernel
theorem d_Mo_compile_31 : decode b_Mo_compile 31 = .ok (.istore_n 2, 1) := by decide +kernel
theorem d_Mo_compile_32 : decode b_Mo_compile 32 = .ok (.iload_n 2, 1) := by decide +kernel
theorem d_Mo_compile_33 : decode b_Mo_compile 33 = .ok (.ifCond .ne 11, 3) := by decide +kernel
theorem d_Mo_compile_36 : decode b_Mo_compile 36 = .ok (.aload_n 0, 1) := by decide +kernel
theorem d_Mo_compile_37 : decode b_Mo_compile 37 = .ok (.aload_n 0, 1) := by decide +kernel
theorem d_Mo_compile_38 : decode b_Mo_compile 38 = .ok (.getfield 114, 3) := by decide +kernel
theorem d_Mo_compile_41 : decode b_Mo_compile 41 = .ok (.putfield 96, 3) := by decide +kernel
theorem d_Mo_compile_44 : decode b_Mo_compile 44 = .ok (.aload_n 0, 1) := by decide +kernel
theorem d_Mo_compile_45 : decode b_Mo_compile 45 = .ok (.iconst 0, 1) := by decide +kernel
theorem d_Mo_compile_46 : decode b_Mo_compile 46 = .ok (.putfield 111, 3) := by decide +kernel
theorem d_Mo_compile_49 : decode b_Mo_compile 49 = .ok (.aload_n 0, 1) := by decide +kernel
theorem d_Mo_compile_50 : decode b_Mo_compile 50 = .ok (.iload_n 2, 1) := by decide +kernel
theorem d_Mo_compile_51 : decode b_Mo_compile 51 = .ok (.invokevirtual 107, 3) := by decide +kernel
theorem d_Mo_compile_54 : decode b_Mo_compile 54 = .ok (.ifCond .eq 5, 3) := by decide +kernel
theorem d_Mo_compile_57 : decode b_Mo_compile 57 = .ok (.iconst 0, 1) := by decide +kernel
theorem d_Mo_compile_58 : decode b_Mo_compile 58 = .ok (.ireturn, 1) := by decide +kernel
theorem d_Mo_compile_59 : decode b_Mo_compile 59 = .ok (.iload_n 1, 1) := by decide +kernel
theorem d_Mo_compile_60 : decode b_Mo_compile 60 = .ok (.bipush 6, 2) := by decide +kernel
theorem d_Mo_compile_62 : decode b_Mo_compile 62 = .ok (.isub, 1) := by decide +kernel
theorem d_Mo_compile_63 : decode b_Mo_compile 63 = .ok (.sipush 200, 3) := by decide +kernel
theorem d_Mo_compile_66 : decode b_Mo_compile 66 = .ok (.imul, 1) := by decide +kernel
theorem d_Mo_compile_67 : decode b_Mo_compile 67 = .ok (.istore_n 3, 1) := by decide +kernel
theorem d_Mo_compile_68 : decode b_Mo_compile 68 = .ok (.sipush 1200, 3) := by decide +kernel
theorem d_Mo_compile_71 : decode b_Mo_compile 71 = .ok (.istore 4, 2) := by decide +kernel
theorem d_Mo_compile_73 : decode b_Mo_compile 73 = .ok (.iload 4, 2) := by decide +kernel
theorem d_Mo_compile_75 : decode b_Mo_compile 75 = .ok (.aload_n 0, 1) := by decide +kernel
theorem d_Mo_compile_76 : decode b_Mo_compile 76 = .ok (.getfield 121, 3) := by decide +kernel
theorem d_Mo_compile_79 : decode b_Mo_compile 79 = .ok (.if_icmp .ge 25, 3) := by decide +kernel
theorem d_Mo_compile_82 : decode b_Mo_compile 82 = .ok (.aload_n 0, 1) := by decide +kernel
theorem d_Mo_compile_83 : decode b_Mo_compile 83 = .ok (.getfield 13, 3) := by decide +kernel
theorem d_Mo_compile_86 : decode b_Mo_compile 86 = .ok (.iload 4, 2) := by decide +kernel
theorem d_Mo_compile_88 : decode b_Mo_compile 88 = .ok (.iload_n 3, 1) := by decide +kernel
theorem d_Mo_compile_89 : decode b_Mo_compile 89 = .ok (.iadd, 1) := by decide +kernel
theorem d_Mo_compile_90 : decode b_Mo_compile 90 = .ok (.aload_n 0, 1) := by decide +kernel
theorem d_Mo_compile_91 : decode b_Mo_compile 91 = .ok (.getfield 13, 3) := by decide +kernel
theorem d_Mo_compile_94 : decode b_Mo_compile 94 = .ok (.iload 4, 2) := by decide +kernel
theorem d_Mo_compile_96 : decode b_Mo_compile 96 = .ok (.iaload, 1) := by decide +kernel
theorem d_Mo_compile_97 : decode b_Mo_compile 97 = .ok (.iastore, 1) := by decide +kernel
theorem d_Mo_compile_98 : decode b_Mo_compile 98 = .ok (.iinc 4 1, 3) := by decide +kernel
theorem d_Mo_compile_101 : decode b_Mo_compile 101 = .ok (.goto (-28), 3) := by decide +kernel
theorem d_Mo_compile_104 : decode b_Mo_compile 104 = .ok (.aload_n 0, 1) := by decide +kernel
theorem d_Mo_compile_105 : decode b_Mo_compile 105 = .ok (.getfield 16, 3) := by decide +kernel
theorem d_Mo_compile_108 : decode b_Mo_compile 108 = .ok (.iload_n 1, 1) := by decide +kernel
theorem d_Mo_compile_109 : decode b_Mo_compile 109 = .ok (.aload_n 0, 1) := by decide +kernel
theorem d_Mo_compile_110 : decode b_Mo_compile 110 = .ok (.getfield 152, 3) := by decide +kernel
theorem d_Mo_compile_113 : decode b_Mo_compile 113 = .ok (.iastore, 1) := by decide +kernel
theorem d_Mo_compile_114 : decode b_Mo_compile 114 = .ok (.aload_n 0, 1) := by decide +kernel
theorem d_Mo_compile_115 : decode b_Mo_compile 115 = .ok (.getfield 19, 3) := by decide +kernel
theorem d_Mo_compile_118 : decode b_Mo_compile 118 = .ok (.iload_n 1, 1) := by decide +kernel
theorem d_Mo_compile_119 : decode b_Mo_compile 119 = .ok (.aload_n 0, 1) := by decide +kernel
theorem d_Mo_compile_120 : decode b_Mo_compile 120 = .ok (.getfield 155, 3) := by decide +kernel
theorem d_Mo_compile_123 : decode b_Mo_compile 123 = .ok (.ifCond .ge 7, 3) := by decide +kernel
theorem d_Mo_compile_126 : decode b_Mo_compile 126 = .ok (.iconst (-1), 1) := by decide +kernel
theorem d_Mo_compile_127 : decode b_Mo_compile 127 = .ok (.goto 9, 3) := by decide +kernel
theorem d_Mo_compile_130 : decode b_Mo_compile 130 = .ok (.aload_n 0, 1) := by decide +kernel
theorem d_Mo_compile_131 : decode b_Mo_compile 131 = .ok (.getfield 155, 3) := by decide +kernel
theorem d_Mo_compile_134 : decode b_Mo_compile 134 = .ok (.iload_n 3, 1) := by decide +kernel
theorem d_Mo_compile_135 : decode b_Mo_compile 135 = .ok (.iadd, 1) := by decide +kernel
theorem d_Mo_compile_136 : decode b_Mo_compile 136 = .ok (.iastore, 1) := by decide +kernel
theorem d_Mo_compile_137 : decode b_Mo_compile 137 = .ok (.aload_n 0, 1) := by decide +kernel
theorem d_Mo_compile_138 : decode b_Mo_compile 138 = .ok (.getfield 22, 3) := by decide +kernel
theorem d_Mo_compile_141 : decode b_Mo_compile 141 = .ok (.iload_n 1, 1) := by decide +kernel
theorem d_Mo_compile_142 : decode b_Mo_compile 142 = .ok (.aload_n 0, 1) := by decide +kernel
theorem d_Mo_compile_143 : decode b_Mo_compile 143 = .ok (.getfield 158, 3) := by decide +kernel
theorem d_Mo_compile_146 : decode b_Mo_compile 146 = .ok (.iastore, 1) := by decide +kernel
theorem d_Mo_compile_147 : decode b_Mo_compile 147 = .ok (.iconst 0, 1) := by decide +kernel
theorem d_Mo_compile_148 : decode b_Mo_compile 148 = .ok (.istore 4, 2) := by decide +kernel
theorem d_Mo_compile_150 : decode b_Mo_compile 150 = .ok (.iload 4, 2) := by decide +kernel
theorem d_Mo_compile_152 : decode b_Mo_compile 152 = .ok (.aload_n 0, 1) := by decide +kernel
theorem d_Mo_compile_153 : decode b_Mo_compile 153 = .ok (.getfield 158, 3) := by decide +kernel
theorem d_Mo_compile_156 : decode b_Mo_compile 156 = .ok (.if_icmp .ge 105, 3) := by decide +kernel
theorem d_Mo_compile_159 : decode b_Mo_compile 159 = .ok (.aload_n 0, 1) := by decide +kernel
theorem d_Mo_compile_160 : decode b_Mo_compile 160 = .ok (.getfield 25, 3) := by decide +kernel
theorem d_Mo_compile_163 : decode b_Mo_compile 163 = .ok (.iload_n 1, 1) := by decide +kernel
theorem d_Mo_compile_164 : decode b_Mo_compile 164 = .ok (.bipush 48, 2) := by decide +kernel
theorem d_Mo_compile_166 : decode b_Mo_compile 166 = .ok (.imul, 1) := by decide +kernel
theorem d_Mo_compile_167 : decode b_Mo_compile 167 = .ok (.iload 4, 2) := by decide +kernel
theorem d_Mo_compile_169 : decode b_Mo_compile 169 = .ok (.iadd, 1) := by decide +kernel
theorem d_Mo_compile_170 : decode b_Mo_compile 170 = .ok (.aload_n 0, 1) := by decide +kernel
theorem d_Mo_compile_171 : decode b_Mo_compile 171 = .ok (.getfield 25, 3) := by decide +kernel
theorem d_Mo_compile_174 : decode b_Mo_compile 174 = .ok (.sipush 288, 3) := by decide +kernel
theorem d_Mo_compile_177 : decode b_Mo_compile 177 = .ok (.iload 4, 2) := by decide +kernel
theorem d_Mo_compile_179 : decode b_Mo_compile 179 = .ok (.iadd, 1) := by decide +kernel
theorem d_Mo_compile_180 : decode b_Mo_compile 180 = .ok (.iaload, 1) := by decide +kernel
theorem d_Mo_compile_181 : decode b_Mo_compile 181 = .ok (.iastore, 1) := by decide +kernel
theorem d_Mo_compile_182 : decode b_Mo_compile 182 = .ok (.aload_n 0, 1) := by decide +kernel
theorem d_Mo_compile_183 : decode b_Mo_compile 183 = .ok (.getfield 28, 3) := by decide +kernel
theorem d_Mo_compile_186 : decode b_Mo_compile 186 = .ok (.iload_n 1, 1) := by decide +kernel
theorem d_Mo_compile_187 : decode b_Mo_compile 187 = .ok (.bipush 48, 2) := by decide +kernel
theorem d_Mo_compile_189 : decode b_Mo_compile 189 = .ok (.imul, 1) := by decide +kernel
theorem d_Mo_compile_190 : decode b_Mo_compile 190 = .ok (.iload 4, 2) := by decide +kernel
theorem d_Mo_compile_192 : decode b_Mo_compile 192 = .ok (.iadd, 1) := by decide +kernel
theorem d_Mo_compile_193 : decode b_Mo_compile 193 = .ok (.aload_n 0, 1) := by decide +kernel
theorem d_Mo_compile_194 : decode b_Mo_compile 194 = .ok (.getfield 28, 3) := by decide +kernel
theorem d_Mo_compile_197 : decode b_Mo_compile 197 = .ok (.sipush 288, 3) := by decide +kernel
theorem d_Mo_compile_200 : decode b_Mo_compile 200 = .ok (.iload 4, 2) := by decide +kernel
theorem d_Mo_compile_202 : decode b_Mo_compile 202 = .ok (.iadd, 1) := by decide +kernel
theorem d_Mo_compile_203 : decode b_Mo_compile 203 = .ok (.iaload, 1) := by decide +kernel
theorem d_Mo_compile_204 : decode b_Mo_compile 204 = .ok (.iastore, 1) := by decide +kernel
theorem d_Mo_compile_205 : decode b_Mo_compile 205 = .ok (.aload_n 0, 1) := by decide +kernel
theorem d_Mo_compile_206 : decode b_Mo_compile 206 = .ok (.getfield 31, 3) := by decide +kernel
theorem d_Mo_compile_209 : decode b_Mo_compile 209 = .ok (.iload_n 1, 1) := by decide +kernel
theorem d_Mo_compile_210 : decode b_Mo_compile 210 = .ok (.bipush 48, 2) := by decide +kernel
theorem d_Mo_compile_212 : decode b_Mo_compile 212 = .ok (.imul, 1) := by decide +kernel
theorem d_Mo_compile_213 : decode b_Mo_compile 213 = .ok (.iload 4, 2) := by decide +kernel
theorem d_Mo_compile_215 : decode b_Mo_compile 215 = .ok (.iadd, 1) := by decide +kernel
theorem d_Mo_compile_216 : decode b_Mo_compile 216 = .ok (.aload_n 0, 1) := by decide +kernel
theorem d_Mo_compile_217 : decode b_Mo_compile 217 = .ok (.getfield 31, 3) := by decide +kernel
theorem d_Mo_compile_220 : decode b_Mo_compile 220 = .ok (.sipush 288, 3) := by decide +kernel
theorem d_Mo_compile_223 : decode b_Mo_compile 223 = .ok (.iload 4, 2) := by decide +kernel
theorem d_Mo_compile_225 : decode b_Mo_compile 225 = .ok (.iadd, 1) := by decide +kernel
theorem d_Mo_compile_226 : decode b_Mo_compile 226 = .ok (.iaload, 1) := by decide +kernel
theorem d_Mo_compile_227 : decode b_Mo_compile 227 = .ok (.iload_n 3, 1) := by decide +kernel
theorem d_Mo_compile_228 : decode b_Mo_compile 228 = .ok (.iadd, 1) := by decide +kernel
theorem d_Mo_compile_229 : decode b_Mo_compile 229 = .ok (.iastore, 1) := by decide +kernel
theorem d_Mo_compile_230 : decode b_Mo_compile 230 = .ok (.aload_n 0, 1) := by decide +kernel
theorem d_Mo_compile_231 : decode b_Mo_compile 231 = .ok (.getfield 34, 3) := by decide +kernel
theorem d_Mo_compile_234 : decode b_Mo_compile 234 = .ok (.iload_n 1, 1) := by decide +kernel
theorem d_Mo_compile_235 : decode b_Mo_compile 235 = .ok (.bipush 48, 2) := by decide +kernel
theorem d_Mo_compile_237 : decode b_Mo_compile 237 = .ok (.imul, 1) := by decide +kernel
theorem d_Mo_compile_238 : decode b_Mo_compile 238 = .ok (.iload 4, 2) := by decide +kernel
theorem d_Mo_compile_240 : decode b_Mo_compile 240 = .ok (.iadd, 1) := by decide +kernel
theorem d_Mo_compile_241 : decode b_Mo_compile 241 = .ok (.aload_n 0, 1) := by decide +kernel
theorem d_Mo_compile_242 : decode b_Mo_compile 242 = .ok (.getfield 34, 3) := by decide +kernel
theorem d_Mo_compile_245 : decode b_Mo_compile 245 = .ok (.sipush 288, 3) := by decide +kernel
theorem d_Mo_compile_248 : decode b_Mo_compile 248 = .ok (.iload 4, 2) := by decide +kernel
theorem d_Mo_compile_250 : decode b_Mo_compile 250 = .ok (.iadd, 1) := by decide +kernel
theorem d_Mo_compile_251 : decode b_Mo_compile 251 = .ok (.iaload, 1) := by decide +kernel
theorem d_Mo_compile_252 : decode b_Mo_compile 252 = .ok (.iload_n 3, 1) := by decide +kernel
theorem d_Mo_compile_253 : decode b_Mo_compile 253 = .ok (.iadd, 1) := by decide +kernel
theorem d_Mo_compile_254 : decode b_Mo_compile 254 = .ok (.iastore, 1) := by decide +kernel
theorem d_Mo_compile_255 : decode b_Mo_compile 255 = .ok (.iinc 4 1, 3) := by decide +kernel
theorem d_Mo_compile_258 : decode b_Mo_compile 258 = .ok (.goto (-108), 3) := by decide +kernel
theorem d_Mo_compile_261 : decode b_Mo_compile 261 = .ok (.aload_n 0, 1) := by decide +kernel
theorem d_Mo_compile_262 : decode b_Mo_compile 262 = .ok (.getfield 43, 3) := by decide +kernel
theorem d_Mo_compile_265 : decode b_Mo_compile 265 = .ok (.iload_n 1, 1) := by decide +kernel
theorem d_Mo_compile_266 : decode b_Mo_compile 266 = .ok (.iconst 1, 1) := by decide +kernel
theorem d_Mo_compile_267 : decode b_Mo_compile 267 = .ok (.bastore, 1) := by decide +kernel
theorem d_Mo_compile_268 : decode b_Mo_compile 268 = .ok (.aload_n 0, 1) := by decide +kernel
theorem d_Mo_compile_269 : decode b_Mo_compile 269 = .ok (.getfield 47, 3) := by decide +kernel
theorem d_Mo_compile_272 : decode b_Mo_compile 272 = .ok (.iload_n 1, 1) := by decide +kernel
theorem d_Mo_compile_273 : decode b_Mo_compile 273 = .ok (.iconst 0, 1) := by decide +kernel
theorem d_Mo_compile_274 : decode b_Mo_compile 274 = .ok (.bastore, 1) := by decide +kernel
theorem d_Mo_compile_275 : decode b_Mo_compile 275 = .ok (.aload_n 0, 1) := by decide +kernel
theorem d_Mo_compile_276 : decode b_Mo_compile 276 = .ok (.getfield 37, 3) := by decide +kernel
theorem d_Mo_compile_279 : decode b_Mo_compile 279 = .ok (.iload_n 1, 1) := by decide +kernel
theorem d_Mo_compile_280 : decode b_Mo_compile 280 = .ok (.iconst 0, 1) := by decide +kernel
theorem d_Mo_compile_281 : decode b_Mo_compile 281 = .ok (.iastore, 1) := by decide +kernel
theorem d_Mo_compile_282 : decode b_Mo_compile 282 = .ok (.aload_n 0, 1) := by decide +kernel
theorem d_Mo_compile_283 : decode b_Mo_compile 283 = .ok (.getfield 40, 3) := by decide +kernel
theorem d_Mo_compile_286 : decode b_Mo_compile 286 = .ok (.iload_n 1, 1) := by decide +kernel
theorem d_Mo_compile_287 : decode b_Mo_compile 287 = .ok (.iconst 0, 1) := by decide +kernel
theorem d_Mo_compile_288 : decode b_Mo_compile 288 = .ok (.iastore, 1) := by decide +kernel
theorem d_Mo_compile_289 : decode b_Mo_compile 289 = .ok (.aload_n 0, 1) := by decide +kernel
theorem d_Mo_compile_290 : decode b_Mo_compile 290 = .ok (.getfield 158, 3) := by decide +kernel
theorem d_Mo_compile_293 : decode b_Mo_compile 293 = .ok (.ireturn, 1) := by decide +kernel
theorem d_Mo_load_0 : decode b_Mo_load 0 = .ok (.iload_n 1, 1) := by decide +kernel
theorem d_Mo_load_1 : decode b_Mo_load 1 = .ok (.bipush 97, 2) := by decide +kernel
theorem d_Mo_load_3 : decode b_Mo_load 3 = .ok (.bipush 99, 2) := by decide +kernel
theorem d_Mo_load_5 : decode b_Mo_load 5 = .ok (.invokestatic 103, 3) := by decide +kernel
theorem d_Mo_load_8 : decode b_Mo_load 8 = .ok (.ifCond .eq 13, 3) := by decide +kernel
theorem d_Mo_load_11 : decode b_Mo_load 11 = .ok (.aload_n 0, 1) := by decide +kernel
theorem d_Mo_load_12 : decode b_Mo_load 12 = .ok (.getfield 66, 3) := by decide +kernel
theorem d_Mo_load_15 : decode b_Mo_load 15 = .ok (.iload_n 1, 1) := by decide +kernel
theorem d_Mo_load_16 : decode b_Mo_load 16 = .ok (.bipush 97, 2) := by decide +kernel
theorem d_Mo_load_18 : decode b_Mo_load 18 = .ok (.isub, 1) := by decide +kernel
theorem d_Mo_load_19 : decode b_Mo_load 19 = .ok (.daload, 1) := by decide +kernel
theorem d_Mo_load_20 : decode b_Mo_load 20 = .ok (.dreturn, 1) := by decide +kernel
theorem d_Mo_load_21 : decode b_Mo_load 21 = .ok (.iload_n 1, 1) := by decide +kernel
theorem d_Mo_load_22 : decode b_Mo_load 22 = .ok (.bipush 116, 2) := by decide +kernel
theorem d_Mo_load_24 : decode b_Mo_load 24 = .ok (.if_icmp .ne 9, 3) := by decide +kernel
theorem d_Mo_load_27 : decode b_Mo_load 27 = .ok (.aload_n 0, 1) := by decide +kernel
theorem d_Mo_load_28 : decode b_Mo_load 28 = .ok (.getfield 167, 3) := by decide +kernel
theorem d_Mo_load_31 : decode b_Mo_load 31 = .ok (.i2d, 1) := by decide +kernel
theorem d_Mo_load_32 : decode b_Mo_load 32 = .ok (.dreturn, 1) := by decide +kernel
theorem d_Mo_load_33 : decode b_Mo_load 33 = .ok (.iload_n 1, 1) := by decide +kernel
theorem d_Mo_load_34 : decode b_Mo_load 34 = .ok (.bipush 107, 2) := by decide +kernel
theorem d_Mo_load_36 : decode b_Mo_load 36 = .ok (.if_icmp .ne 9, 3) := by decide +kernel
theorem d_Mo_load_39 : decode b_Mo_load 39 = .ok (.aload_n 0, 1) := by decide +kernel
theorem d_Mo_load_40 : decode b_Mo_load 40 = .ok (.getfield 170, 3) := by decide +kernel
theorem d_Mo_load_43 : decode b_Mo_load 43 = .ok (.i2d, 1) := by decide +kernel
theorem d_Mo_load_44 : decode b_Mo_load 44 = .ok (.dreturn, 1) := by decide +kernel
theorem d_Mo_load_45 : decode b_Mo_load 45 = .ok (.iload_n 1, 1) := by decide +kernel
theorem d_Mo_load_46 : decode b_Mo_load 46 = .ok (.bipush 120, 2) := by decide +kernel
theorem d_Mo_load_48 : decode b_Mo_load 48 = .ok (.if_icmp .ge 15, 3) := by decide +kernel
theorem d_Mo_load_51 : decode b_Mo_load 51 = .ok (.aload_n 0, 1) := by decide +kernel
theorem d_Mo_load_52 : decode b_Mo_load 52 = .ok (.getfield 53, 3) := by decide +kernel
theorem d_Mo_load_55 : decode b_Mo_load 55 = .ok (.iload_n 1, 1) := by decide +kernel
theorem d_Mo_load_56 : decode b_Mo_load 56 = .ok (.bipush 117, 2) := by decide +kernel
theorem d_Mo_load_58 : decode b_Mo_load 58 = .ok (.isub, 1) := by decide +kernel
theorem d_Mo_load_59 : decode b_Mo_load 59 = .ok (.daload, 1) := by decide +kernel
theorem d_Mo_load_60 : decode b_Mo_load 60 = .ok (.goto 19, 3) := by decide +kernel
theorem d_Mo_load_63 : decode b_Mo_load 63 = .ok (.aload_n 0, 1) := by decide +kernel
theorem d_Mo_load_64 : decode b_Mo_load 64 = .ok (.getfield 57, 3) := by decide +kernel
theorem d_Mo_load_67 : decode b_Mo_load 67 = .ok (.aload_n 0, 1) := by decide +kernel
theorem d_Mo_load_68 : decode b_Mo_load 68 = .ok (.getfield 170, 3) := by decide +kernel
theorem d_Mo_load_71 : decode b_Mo_load 71 = .ok (.iconst 3, 1) := by decide +kernel
theorem d_Mo_load_72 : decode b_Mo_load 72 = .ok (.imul, 1) := by decide +kernel
theorem d_Mo_load_73 : decode b_Mo_load 73 = .ok (.iload_n 1, 1) := by decide +kernel
theorem d_Mo_load_74 : decode b_Mo_load 74 = .ok (.iadd, 1) := by decide +kernel
theorem d_Mo_load_75 : decode b_Mo_load 75 = .ok (.bipush 120, 2) := by decide +kernel
theorem d_Mo_load_77 : decode b_Mo_load 77 = .ok (.isub, 1) := by decide +kernel
theorem d_Mo_load_78 : decode b_Mo_load 78 = .ok (.daload, 1) := by decide +kernel
theorem d_Mo_load_79 : decode b_Mo_load 79 = .ok (.dreturn, 1) := by decide +kernel
theorem d_Mo_reckon_0 : decode b_Mo_reckon 0 = .ok (.iload_n 1, 1) := by decide +kernel
theorem d_Mo_reckon_1 : decode b_Mo_reckon 1 = .ok (.bipush 60, 2) := by decide +kernel
theorem d_Mo_reckon_3 : decode b_Mo_reckon 3 = .ok (.if_icmp .ne 16, 3) := by decide +kernel
theorem d_Mo_reckon_6 : decode b_Mo_reckon 6 = .ok (.dload_n 2, 1) := by decide +kernel
theorem d_Mo_reckon_7 : decode b_Mo_reckon 7 = .ok (.dload 4, 2) := by decide +kernel
theorem d_Mo_reckon_9 : decode b_Mo_reckon 9 = .ok (.dcmp .g, 1) := by decide +kernel
theorem d_Mo_reckon_10 : decode b_Mo_reckon 10 = .ok (.ifCond .ge 7, 3) := by decide +kernel
theorem d_Mo_reckon_13 : decode b_Mo_reckon 13 = .ok (.dconst 1, 1) := by decide +kernel
theorem d_Mo_reckon_14 : decode b_Mo_reckon 14 = .ok (.goto 4, 3) := by decide +kernel
theorem d_Mo_reckon_17 : decode b_Mo_reckon 17 = .ok (.dconst 0, 1) := by decide +kernel
theorem d_Mo_reckon_18 : decode b_Mo_reckon 18 = .ok (.dreturn, 1) := by decide +kernel
theorem d_Mo_reckon_19 : decode b_Mo_reckon 19 = .ok (.iload_n 1, 1) := by decide +kernel
theorem d_Mo_reckon_20 : decode b_Mo_reckon 20 = .ok (.bipush 62, 2) := by decide +kernel
theorem d_Mo_reckon_22 : decode b_Mo_reckon 22 = .ok (.if_icmp .ne 16, 3) := by decide +kernel
theorem d_Mo_reckon_25 : decode b_Mo_reckon 25 = .ok (.dload_n 2, 1) := by decide +kernel
theorem d_Mo_reckon_26 : decode b_Mo_reckon 26 = .ok (.dload 4, 2) := by decide +kernel
theorem d_Mo_reckon_28 : decode b_Mo_reckon 28 = .ok (.dcmp .l, 1) := by decide +kernel
theorem d_Mo_reckon_29 : decode b_Mo_reckon 29 = .ok (.ifCond .le 7, 3) := by decide +kernel
theorem d_Mo_reckon_32 : decode b_Mo_reckon 32 = .ok (.dconst 1, 1) := by decide +kernel
theorem d_Mo_reckon_33 : decode b_Mo_reckon 33 = .ok (.goto 4, 3) := by decide +kernel
theorem d_Mo_reckon_36 : decode b_Mo_reckon 36 = .ok (.dconst 0, 1) := by decide +kernel
theorem d_Mo_reckon_37 : decode b_Mo_reckon 37 = .ok (.dreturn, 1) := by decide +kernel
theorem d_Mo_reckon_38 : decode b_Mo_reckon 38 = .ok (.iload_n 1, 1) := by decide +kernel
theorem d_Mo_reckon_39 : decode b_Mo_reckon 39 = .ok (.bipush 61, 2) := by decide +kernel
theorem d_Mo_reckon_41 : decode b_Mo_reckon 41 = .ok (.if_icmp .ne 16, 3) := by decide +kernel
theorem d_Mo_reckon_44 : decode b_Mo_reckon 44 = .ok (.dload_n 2, 1) := by decide +kernel
theorem d_Mo_reckon_45 : decode b_Mo_reckon 45 = .ok (.dload 4, 2) := by decide +kernel
theorem d_Mo_reckon_47 : decode b_Mo_reckon 47 = .ok (.dcmp .l, 1) := by decide +kernel
theorem d_Mo_reckon_48 : decode b_Mo_reckon 48 = .ok (.ifCond .ne 7, 3) := by decide +kernel
theorem d_Mo_reckon_51 : decode b_Mo_reckon 51 = .ok (.dconst 1, 1) := by decide +kernel
theorem d_Mo_reckon_52 : decode b_Mo_reckon 52 = .ok (.goto 4, 3) := by decide +kernel
theorem d_Mo_reckon_55 : decode b_Mo_reckon 55 = .ok (.dconst 0, 1) := by decide +kernel
theorem d_Mo_reckon_56 : decode b_Mo_reckon 56 = .ok (.dreturn, 1) := by decide +kernel
theorem d_Mo_reckon_57 : decode b_Mo_reckon 57 = .ok (.iload_n 1, 1) := by decide +kernel
theorem d_Mo_reckon_58 : decode b_Mo_reckon 58 = .ok (.bipush 58, 2) := by decide +kernel
theorem d_Mo_reckon_60 : decode b_Mo_reckon 60 = .ok (.if_icmp .ne 17, 3) := by decide +kernel
theorem d_Mo_reckon_63 : decode b_Mo_reckon 63 = .ok (.dload 4, 2) := by decide +kernel
theorem d_Mo_reckon_65 : decode b_Mo_reckon 65 = .ok (.dconst 0, 1) := by decide +kernel
theorem d_Mo_reckon_66 : decode b_Mo_reckon 66 = .ok (.dcmp .l, 1) := by decide +kernel
theorem d_Mo_reckon_67 : decode b_Mo_reckon 67 = .ok (.ifCond .ne 10, 3) := by decide +kernel
theorem d_Mo_reckon_70 : decode b_Mo_reckon 70 = .ok (.aload_n 0, 1) := by decide +kernel
theorem d_Mo_reckon_71 : decode b_Mo_reckon 71 = .ok (.iconst 1, 1) := by decide +kernel
theorem d_Mo_reckon_72 : decode b_Mo_reckon 72 = .ok (.putfield 173, 3) := by decide +kernel
theorem d_Mo_reckon_75 : decode b_Mo_reckon 75 = .ok (.dconst 0, 1) := by decide +kernel
theorem d_Mo_reckon_76 : decode b_Mo_reckon 76 = .ok (.dreturn, 1) := by decide +kernel
theorem d_Mo_reckon_77 : decode b_Mo_reckon 77 = .ok (.iload_n 1, 1) := by decide +kernel
theorem d_Mo_reckon_78 : decode b_Mo_reckon 78 = .ok (.bipush 43, 2) := by decide +kernel
theorem d_Mo_reckon_80 : decode b_Mo_reckon 80 = .ok (.if_icmp .ne 10, 3) := by decide +kernel
theorem d_Mo_reckon_83 : decode b_Mo_reckon 83 = .ok (.dload_n 2, 1) := by decide +kernel
theorem d_Mo_reckon_84 : decode b_Mo_reckon 84 = .ok (.dload 4, 2) := by decide +kernel
theorem d_Mo_reckon_86 : decode b_Mo_reckon 86 = .ok (.dadd, 1) := by decide +kernel
theorem d_Mo_reckon_87 : decode b_Mo_reckon 87 = .ok (.goto 33, 3) := by decide +kernel
theorem d_Mo_reckon_90 : decode b_Mo_reckon 90 = .ok (.iload_n 1, 1) := by decide +kernel
theorem d_Mo_reckon_91 : decode b_Mo_reckon 91 = .ok (.bipush 45, 2) := by decide +kernel
theorem d_Mo_reckon_93 : decode b_Mo_reckon 93 = .ok (.if_icmp .ne 10, 3) := by decide +kernel
theorem d_Mo_reckon_96 : decode b_Mo_reckon 96 = .ok (.dload_n 2, 1) := by decide +kernel
theorem d_Mo_reckon_97 : decode b_Mo_reckon 97 = .ok (.dload 4, 2) := by decide +kernel
theorem d_Mo_reckon_99 : decode b_Mo_reckon 99 = .ok (.dsub, 1) := by decide +kernel
theorem d_Mo_reckon_100 : decode b_Mo_reckon 100 = .ok (.goto 20, 3) := by decide +kernel
theorem d_Mo_reckon_103 : decode b_Mo_reckon 103 = .ok (.iload_n 1, 1) := by decide +kernel
theorem d_Mo_reckon_104 : decode b_Mo_reckon 104 = .ok (.bipush 42, 2) := by decide +kernel
theorem d_Mo_reckon_106 : decode b_Mo_reckon 106 = .ok (.if_icmp .ne 10, 3) := by decide +kernel
theorem d_Mo_reckon_109 : decode b_Mo_reckon 109 = .ok (.dload_n 2, 1) := by decide +kernel
theorem d_Mo_reckon_110 : decode b_Mo_reckon 110 = .ok (.dload 4, 2) := by decide +kernel
theorem d_Mo_reckon_112 : decode b_Mo_reckon 112 = .ok (.dmul, 1) := by decide +kernel
theorem d_Mo_reckon_113 : decode b_Mo_reckon 113 = .ok (.goto 7, 3) := by decide +kernel
theorem d_Mo_reckon_116 : decode b_Mo_reckon 116 = .ok (.dload_n 2, 1) := by decide +kernel
theorem d_Mo_reckon_117 : decode b_Mo_reckon 117 = .ok (.dload 4, 2) := by decide +kernel
theorem d_Mo_reckon_119 : decode b_Mo_reckon 119 = .ok (.ddiv, 1) := by decide +kernel
theorem d_Mo_reckon_120 : decode b_Mo_reckon 120 = .ok (.dstore 6, 2) := by decide +kernel
theorem d_Mo_reckon_122 : decode b_Mo_reckon 122 = .ok (.dload 6, 2) := by decide +kernel
theorem d_Mo_reckon_124 : decode b_Mo_reckon 124 = .ok (.ldc2_w 177, 3) := by decide +kernel
theorem d_Mo_reckon_127 : decode b_Mo_reckon 127 = .ok (.dcmp .l, 1) := by decide +kernel
theorem d_Mo_reckon_128 : decode b_Mo_reckon 128 = .ok (.ifCond .gt 12, 3) := by decide +kernel
theorem d_Mo_reckon_131 : decode b_Mo_reckon 131 = .ok (.dload 6, 2) := by decide +kernel
theorem d_Mo_reckon_133 : decode b_Mo_reckon 133 = .ok (.ldc2_w 179, 3) := by decide +kernel
theorem d_Mo_reckon_136 : decode b_Mo_reckon 136 = .ok (.dcmp .g, 1) := by decide +kernel
theorem d_Mo_reckon_137 : decode b_Mo_reckon 137 = .ok (.ifCond .ge 8, 3) := by decide +kernel
theorem d_Mo_reckon_140 : decode b_Mo_reckon 140 = .ok (.aload_n 0, 1) := by decide +kernel
theorem d_Mo_reckon_141 : decode b_Mo_reckon 141 = .ok (.iconst 1, 1) := by decide +kernel
theorem d_Mo_reckon_142 : decode b_Mo_reckon 142 = .ok (.putfield 173, 3) := by decide +kernel
theorem d_Mo_reckon_145 : decode b_Mo_reckon 145 = .ok (.dload 6, 2) := by decide +kernel
theorem d_Mo_reckon_147 : decode b_Mo_reckon 147 = .ok (.dreturn, 1) := by decide +kernel
theorem d_Mo_value_0 : decode b_Mo_value 0 = .ok (.iconst 0, 1) := by decide +kernel
theorem d_Mo_value_1 : decode b_Mo_value 1 = .ok (.istore_n 2, 1) := by decide +kernel
theorem d_Mo_value_2 : decode b_Mo_value 2 = .ok (.iload_n 1, 1) := by decide +kernel
theorem d_Mo_value_3 : decode b_Mo_value 3 = .ok (.istore_n 3, 1) := by decide +kernel
theorem d_Mo_value_4 : decode b_Mo_value 4 = .ok (.aload_n 0, 1) := by decide +kernel
theorem d_Mo_value_5 : decode b_Mo_value 5 = .ok (.getfield 13, 3) := by decide +kernel
theorem d_Mo_value_8 : decode b_Mo_value 8 = .ok (.iload_n 3, 1) := by decide +kernel
theorem d_Mo_value_9 : decode b_Mo_value 9 = .ok (.iaload, 1) := by decide +kernel
theorem d_Mo_value_10 : decode b_Mo_value 10 = .ok (.ifCond .eq 129, 3) := by decide +kernel
theorem d_Mo_value_13 : decode b_Mo_value 13 = .ok (.aload_n 0, 1) := by decide +kernel
theorem d_Mo_value_14 : decode b_Mo_value 14 = .ok (.getfield 173, 3) := by decide +kernel
theorem d_Mo_value_17 : decode b_Mo_value 17 = .ok (.ifCond .ne 122, 3) := by decide +kernel
theorem d_Mo_value_20 : decode b_Mo_value 20 = .ok (.aload_n 0, 1) := by decide +kernel
theorem d_Mo_value_21 : decode b_Mo_value 21 = .ok (.getfield 13, 3) := by decide +kernel
theorem d_Mo_value_24 : decode b_Mo_value 24 = .ok (.iload_n 3, 1) := by decide +kernel
theorem d_Mo_value_25 : decode b_Mo_value 25 = .ok (.iaload, 1) := by decide +kernel
theorem d_Mo_value_26 : decode b_Mo_value 26 = .ok (.istore 4, 2) := by decide +kernel
theorem d_Mo_value_28 : decode b_Mo_value 28 = .ok (.aload_n 0, 1) := by decide +kernel
theorem d_Mo_value_29 : decode b_Mo_value 29 = .ok (.getfield 13, 3) := by decide +kernel
theorem d_Mo_value_32 : decode b_Mo_value 32 = .ok (.iload_n 3, 1) := by decide +kernel
theorem d_Mo_value_33 : decode b_Mo_value 33 = .ok (.iconst 1, 1) := by decide +kernel
theorem d_Mo_value_34 : decode b_Mo_value 34 = .ok (.iadd, 1) := by decide +kernel
theorem d_Mo_value_35 : decode b_Mo_value 35 = .ok (.iaload, 1) := by decide +kernel
theorem d_Mo_value_36 : decode b_Mo_value 36 = .ok (.istore 5, 2) := by decide +kernel
theorem d_Mo_value_38 : decode b_Mo_value 38 = .ok (.iload 4, 2) := by decide +kernel
theorem d_Mo_value_40 : decode b_Mo_value 40 = .ok (.iconst 3, 1) := by decide +kernel
theorem d_Mo_value_41 : decode b_Mo_value 41 = .ok (.if_icmp .ge 33, 3) := by decide +kernel
theorem d_Mo_value_44 : decode b_Mo_value 44 = .ok (.aload_n 0, 1) := by decide +kernel
theorem d_Mo_value_45 : decode b_Mo_value 45 = .ok (.getfield 63, 3) := by decide +kernel
theorem d_Mo_value_48 : decode b_Mo_value 48 = .ok (.iload_n 2, 1) := by decide +kernel
theorem d_Mo_value_49 : decode b_Mo_value 49 = .ok (.iload 4, 2) := by decide +kernel
theorem d_Mo_value_51 : decode b_Mo_value 51 = .ok (.iconst 1, 1) := by decide +kernel
theorem d_Mo_value_52 : decode b_Mo_value 52 = .ok (.if_icmp .ne 9, 3) := by decide +kernel
theorem d_Mo_value_55 : decode b_Mo_value 55 = .ok (.iload 5, 2) := by decide +kernel
theorem d_Mo_value_57 : decode b_Mo_value 57 = .ok (.i2d, 1) := by decide +kernel
theorem d_Mo_value_58 : decode b_Mo_value 58 = .ok (.goto 9, 3) := by decide +kernel
theorem d_Mo_value_61 : decode b_Mo_value 61 = .ok (.aload_n 0, 1) := by decide +kernel
theorem d_Mo_value_62 : decode b_Mo_value 62 = .ok (.iload 5, 2) := by decide +kernel
theorem d_Mo_value_64 : decode b_Mo_value 64 = .ok (.invokevirtual 181, 3) := by decide +kernel
theorem d_Mo_value_67 : decode b_Mo_value 67 = .ok (.dastore, 1) := by decide +kernel
theorem d_Mo_value_68 : decode b_Mo_value 68 = .ok (.iinc 2 1, 3) := by decide +kernel
theorem d_Mo_value_71 : decode b_Mo_value 71 = .ok (.goto 62, 3) := by decide +kernel
theorem d_Mo_value_74 : decode b_Mo_value 74 = .ok (.iload 4, 2) := by decide +kernel
theorem d_Mo_value_76 : decode b_Mo_value 76 = .ok (.iconst 4, 1) := by decide +kernel
theorem d_Mo_value_77 : decode b_Mo_value 77 = .ok (.if_icmp .ne 23, 3) := by decide +kernel
theorem d_Mo_value_80 : decode b_Mo_value 80 = .ok (.aload_n 0, 1) := by decide +kernel
theorem d_Mo_value_81 : decode b_Mo_value 81 = .ok (.getfield 63, 3) := by decide +kernel
theorem d_Mo_value_84 : decode b_Mo_value 84 = .ok (.iload_n 2, 1) := by decide +kernel
theorem d_Mo_value_85 : decode b_Mo_value 85 = .ok (.iconst 1, 1) := by decide +kernel
theorem d_Mo_value_86 : decode b_Mo_value 86 = .ok (.isub, 1) := by decide +kernel
theorem d_Mo_value_87 : decode b_Mo_value 87 = .ok (.aload_n 0, 1) := by decide +kernel
theorem d_Mo_value_88 : decode b_Mo_value 88 = .ok (.getfield 63, 3) := by decide +kernel
theorem d_Mo_value_91 : decode b_Mo_value 91 = .ok (.iload_n 2, 1) := by decide +kernel
theorem d_Mo_value_92 : decode b_Mo_value 92 = .ok (.iconst 1, 1) := by decide +kernel
theorem d_Mo_value_93 : decode b_Mo_value 93 = .ok (.isub, 1) := by decide +kernel
theorem d_Mo_value_94 : decode b_Mo_value 94 = .ok (.daload, 1) := by decide +kernel
theorem d_Mo_value_95 : decode b_Mo_value 95 = .ok (.dneg, 1) := by decide +kernel
theorem d_Mo_value_96 : decode b_Mo_value 96 = .ok (.dastore, 1) := by decide +kernel
theorem d_Mo_value_97 : decode b_Mo_value 97 = .ok (.goto 36, 3) := by decide +kernel
theorem d_Mo_value_100 : decode b_Mo_value 100 = .ok (.aload_n 0, 1) := by decide +kernel
theorem d_Mo_value_101 : decode b_Mo_value 101 = .ok (.getfield 63, 3) := by decide +kernel
theorem d_Mo_value_104 : decode b_Mo_value 104 = .ok (.iload_n 2, 1) := by decide +kernel
theorem d_Mo_value_105 : decode b_Mo_value 105 = .ok (.iconst 2, 1) := by decide +kernel
theorem d_Mo_value_106 : decode b_Mo_value 106 = .ok (.isub, 1) := by decide +kernel
theorem d_Mo_value_107 : decode b_Mo_value 107 = .ok (.aload_n 0, 1) := by decide +kernel
theorem d_Mo_value_108 : decode b_Mo_value 108 = .ok (.iload 5, 2) := by decide +kernel
theorem d_Mo_value_110 : decode b_Mo_value 110 = .ok (.aload_n 0, 1) := by decide +kernel
theorem d_Mo_value_111 : decode b_Mo_value 111 = .ok (.getfield 63, 3) := by decide +kernel
theorem d_Mo_value_114 : decode b_Mo_value 114 = .ok (.iload_n 2, 1) := by decide +kernel
theorem d_Mo_value_115 : decode b_Mo_value 115 = .ok (.iconst 2, 1) := by decide +kernel
theorem d_Mo_value_116 : decode b_Mo_value 116 = .ok (.isub, 1) := by decide +kernel
theorem d_Mo_value_117 : decode b_Mo_value 117 = .ok (.daload, 1) := by decide +kernel
theorem d_Mo_value_118 : decode b_Mo_value 118 = .ok (.aload_n 0, 1) := by decide +kernel
theorem d_Mo_value_119 : decode b_Mo_value 119 = .ok (.getfield 63, 3) := by decide +kernel
theorem d_Mo_value_122 : decode b_Mo_value 122 = .ok (.iload_n 2, 1) := by decide +kernel
theorem d_Mo_value_123 : decode b_Mo_value 123 = .ok (.iconst 1, 1) := by decide +kernel
theorem d_Mo_value_124 : decode b_Mo_value 124 = .ok (.isub, 1) := by decide +kernel
theorem d_Mo_value_125 : decode b_Mo_value 125 = .ok (.daload, 1) := by decide +kernel
theorem d_Mo_value_126 : decode b_Mo_value 126 = .ok (.invokevirtual 185, 3) := by decide +kernel
theorem d_Mo_value_129 : decode b_Mo_value 129 = .ok (.dastore, 1) := by decide +kernel
theorem d_Mo_value_130 : decode b_Mo_value 130 = .ok (.iinc 2 (-1), 3) := by decide +kernel
theorem d_Mo_value_133 : decode b_Mo_value 133 = .ok (.iinc 3 2, 3) := by decide +kernel
theorem d_Mo_value_136 : decode b_Mo_value 136 = .ok (.goto (-132), 3) := by decide +kernel
theorem d_Mo_value_139 : decode b_Mo_value 139 = .ok (.aload_n 0, 1) := by decide +kernel
theorem d_Mo_value_140 : decode b_Mo_value 140 = .ok (.getfield 63, 3) := by decide +kernel
theorem d_Mo_value_143 : decode b_Mo_value 143 = .ok (.iconst 0, 1) := by decide +kernel
theorem d_Mo_value_144 : decode b_Mo_value 144 = .ok (.daload, 1) := by decide +kernel
theorem d_Mo_value_145 : decode b_Mo_value 145 = .ok (.dreturn, 1) := by decide +kernel
theorem d_Mo_binOf_0 : decode b_Mo_binOf 0 = .ok (.iconst 0, 1) := by decide +kernel
theorem d_Mo_binOf_1 : decode b_Mo_binOf 1 = .ok (.istore_n 2, 1) := by decide +kernel
theorem d_Mo_binOf_2 : decode b_Mo_binOf 2 = .ok (.dconst 1, 1) := by decide +kernel
theorem d_Mo_binOf_3 : decode b_Mo_binOf 3 = .ok (.dstore_n 3, 1) := by decide +kernel
theorem d_Mo_binOf_4 : decode b_Mo_binOf 4 = .ok (.iload_n 2, 1) := by decide +kernel
theorem d_Mo_binOf_5 : decode b_Mo_binOf 5 = .ok (.bipush 7, 2) := by decide +kernel
theorem d_Mo_binOf_7 : decode b_Mo_binOf 7 = .ok (.if_icmp .ge 21, 3) := by decide +kernel
theorem d_Mo_binOf_10 : decode b_Mo_binOf 10 = .ok (.dload_n 0, 1) := by decide +kernel
theorem d_Mo_binOf_11 : decode b_Mo_binOf 11 = .ok (.dload_n 3, 1) := by decide +kernel
theorem d_Mo_binOf_12 : decode b_Mo_binOf 12 = .ok (.dcmp .l, 1) := by decide +kernel
theorem d_Mo_binOf_13 : decode b_Mo_binOf 13 = .ok (.ifCond .lt 15, 3) := by decide +kernel
theorem d_Mo_binOf_16 : decode b_Mo_binOf 16 = .ok (.iinc 2 1, 3) := by decide +kernel
theorem d_Mo_binOf_19 : decode b_Mo_binOf 19 = .ok (.dload_n 3, 1) := by decide +kernel
theorem d_Mo_binOf_20 : decode b_Mo_binOf 20 = .ok (.ldc2_w 189, 3) := by decide +kernel
theorem d_Mo_binOf_23 : decode b_Mo_binOf 23 = .ok (.dmul, 1) := by decide +kernel
theorem d_Mo_binOf_24 : decode b_Mo_binOf 24 = .ok (.dstore_n 3, 1) := by decide +kernel
theorem d_Mo_binOf_25 : decode b_Mo_binOf 25 = .ok (.goto (-21), 3) := by decide +kernel
theorem d_Mo_binOf_28 : decode b_Mo_binOf 28 = .ok (.iload_n 2, 1) := by decide +kernel
theorem d_Mo_binOf_29 : decode b_Mo_binOf 29 = .ok (.ireturn, 1) := by decide +kernel
theorem d_Mo_find_0 : decode b_Mo_find 0 = .ok (.iconst 0, 1) := by decide +kernel
theorem d_Mo_find_1 : decode b_Mo_find 1 = .ok (.istore_n 3, 1) := by decide +kernel
theorem d_Mo_find_2 : decode b_Mo_find 2 = .ok (.iload_n 3, 1) := by decide +kernel
theorem d_Mo_find_3 : decode b_Mo_find 3 = .ok (.aload_n 0, 1) := by decide +kernel
theorem d_Mo_find_4 : decode b_Mo_find 4 = .ok (.getfield 69, 3) := by decide +kernel
theorem d_Mo_find_7 : decode b_Mo_find 7 = .ok (.iload_n 1, 1) := by decide +kernel
theorem d_Mo_find_8 : decode b_Mo_find 8 = .ok (.iaload, 1) := by decide +kernel
theorem d_Mo_find_9 : decode b_Mo_find 9 = .ok (.if_icmp .ge 29, 3) := by decide +kernel
theorem d_Mo_find_12 : decode b_Mo_find 12 = .ok (.aload_n 0, 1) := by decide +kernel
theorem d_Mo_find_13 : decode b_Mo_find 13 = .ok (.getfield 72, 3) := by decide +kernel
theorem d_Mo_find_16 : decode b_Mo_find 16 = .ok (.iload_n 1, 1) := by decide +kernel
theorem d_Mo_find_17 : decode b_Mo_find 17 = .ok (.iconst 4, 1) := by decide +kernel
theorem d_Mo_find_18 : decode b_Mo_find 18 = .ok (.imul, 1) := by decide +kernel
theorem d_Mo_find_19 : decode b_Mo_find 19 = .ok (.iload_n 3, 1) := by decide +kernel
theorem d_Mo_find_20 : decode b_Mo_find 20 = .ok (.iadd, 1) := by decide +kernel
theorem d_Mo_find_21 : decode b_Mo_find 21 = .ok (.iaload, 1) := by decide +kernel
theorem d_Mo_find_22 : decode b_Mo_find 22 = .ok (.iload_n 2, 1) := by decide +kernel
theorem d_Mo_find_23 : decode b_Mo_find 23 = .ok (.if_icmp .ne 9, 3) := by decide +kernel
theorem d_Mo_find_26 : decode b_Mo_find 26 = .ok (.iload_n 1, 1) := by decide +kernel
theorem d_Mo_find_27 : decode b_Mo_find 27 = .ok (.iconst 4, 1) := by decide +kernel
theorem d_Mo_find_28 : decode b_Mo_find 28 = .ok (.imul, 1) := by decide +kernel
theorem d_Mo_find_29 : decode b_Mo_find 29 = .ok (.iload_n 3, 1) := by decide +kernel
theorem d_Mo_find_30 : decode b_Mo_find 30 = .ok (.iadd, 1) := by decide +kernel
theorem d_Mo_find_31 : decode b_Mo_find 31 = .ok (.ireturn, 1) := by decide +kernel
theorem d_Mo_find_32 : decode b_Mo_find 32 = .ok (.iinc 3 1, 3) := by decide +kernel
theorem d_Mo_find_35 : decode b_Mo_find 35 = .ok (.goto (-33), 3) := by decide +kernel
theorem d_Mo_find_38 : decode b_Mo_find 38 = .ok (.iconst (-1), 1) := by decide +kernel
theorem d_Mo_find_39 : decode b_Mo_find 39 = .ok (.ireturn, 1) := by decide +kernel
theorem d_Mo_gather_0 : decode b_Mo_gather 0 = .ok (.aload_n 0, 1) := by decide +kernel
theorem d_Mo_gather_1 : decode b_Mo_gather 1 = .ok (.iload_n 1, 1) := by decide +kernel
theorem d_Mo_gather_2 : decode b_Mo_gather 2 = .ok (.iload_n 2, 1) := by decide +kernel
theorem d_Mo_gather_3 : decode b_Mo_gather 3 = .ok (.invokevirtual 191, 3) := by decide +kernel
theorem d_Mo_gather_6 : decode b_Mo_gather 6 = .ok (.istore 5, 2) := by decide +kernel
theorem d_Mo_gather_8 : decode b_Mo_gather 8 = .ok (.iload 5, 2) := by decide +kernel
theorem d_Mo_gather_10 : decode b_Mo_gather 10 = .ok (.ifCond .ge 24, 3) := by decide +kernel
theorem d_Mo_gather_13 : decode b_Mo_gather 13 = .ok (.aload_n 0, 1) := by decide +kernel
theorem d_Mo_gather_14 : decode b_Mo_gather 14 = .ok (.getfield 69, 3) := by decide +kernel
theorem d_Mo_gather_17 : decode b_Mo_gather 17 = .ok (.iload_n 1, 1) := by decide +kernel
theorem d_Mo_gather_18 : decode b_Mo_gather 18 = .ok (.iaload, 1) := by decide +kernel
theorem d_Mo_gather_19 : decode b_Mo_gather 19 = .ok (.iconst 4, 1) := by decide +kernel
theorem d_Mo_gather_20 : decode b_Mo_gather 20 = .ok (.if_icmp .ne 14, 3) := by decide +kernel
theorem d_Mo_gather_23 : decode b_Mo_gather 23 = .ok (.aload_n 0, 1) := by decide +kernel
theorem d_Mo_gather_24 : decode b_Mo_gather 24 = .ok (.dup, 1) := by decide +kernel
theorem d_Mo_gather_25 : decode b_Mo_gather 25 = .ok (.getfield 195, 3) := by decide +kernel
theorem d_Mo_gather_28 : decode b_Mo_gather 28 = .ok (.iconst 1, 1) := by decide +kernel
theorem d_Mo_gather_29 : decode b_Mo_gather 29 = .ok (.iadd, 1) := by decide +kernel
theorem d_Mo_gather_30 : decode b_Mo_gather 30 = .ok (.putfield 195, 3) := by decide +kernel
theorem d_Mo_gather_33 : decode b_Mo_gather 33 = .ok (.return_, 1) := by decide +kernel
theorem d_Mo_gather_34 : decode b_Mo_gather 34 = .ok (.iload 5, 2) := by decide +kernel
theorem d_Mo_gather_36 : decode b_Mo_gather 36 = .ok (.ifCond .ge 7, 3) := by decide +kernel
theorem d_Mo_gather_39 : decode b_Mo_gather 39 = .ok (.iconst 1, 1) := by decide +kernel
theorem d_Mo_gather_40 : decode b_Mo_gather 40 = .ok (.goto 4, 3) := by decide +kernel
theorem d_Mo_gather_43 : decode b_Mo_gather 43 = .ok (.iconst 0, 1) := by decide +kernel
theorem d_Mo_gather_44 : decode b_Mo_gather 44 = .ok (.istore 6, 2) := by decide +kernel
theorem d_Mo_gather_46 : decode b_Mo_gather 46 = .ok (.iload 6, 2) := by decide +kernel
theorem d_Mo_gather_48 : decode b_Mo_gather 48 = .ok (.ifCond .eq 15, 3) := by decide +kernel
theorem d_Mo_gather_51 : decode b_Mo_gather 51 = .ok (.iload_n 1, 1) := by decide +kernel
theorem d_Mo_gather_52 : decode b_Mo_gather 52 = .ok (.iconst 4, 1) := by decide +kernel
theorem d_Mo_gather_53 : decode b_Mo_gather 53 = .ok (.imul, 1) := by decide +kernel
theorem d_Mo_gather_54 : decode b_Mo_gather 54 = .ok (.aload_n 0, 1) := by decide +kernel
theorem d_Mo_gather_55 : decode b_Mo_gather 55 = .ok (.getfield 69, 3) := by decide +kernel
theorem d_Mo_gather_58 : decode b_Mo_gather 58 = .ok (.iload_n 1, 1) := by decide +kernel
theorem d_Mo_gather_59 : decode b_Mo_gather 59 = .ok (.iaload, 1) := by decide +kernel
theorem d_Mo_gather_60 : decode b_Mo_gather 60 = .ok (.iadd, 1) := by decide +kernel
theorem d_Mo_gather_61 : decode b_Mo_gather 61 = .ok (.istore 5, 2) := by decide +kernel
theorem d_Mo_gather_63 : decode b_Mo_gather 63 = .ok (.iload 6, 2) := by decide +kernel
theorem d_Mo_gather_65 : decode b_Mo_gather 65 = .ok (.ifCond .eq 9, 3) := by decide +kernel
theorem d_Mo_gather_68 : decode b_Mo_gather 68 = .ok (.dconst 0, 1) := by decide +kernel
theorem d_Mo_gather_69 : decode b_Mo_gather 69 = .ok (.dload_n 3, 1) := by decide +kernel
theorem d_Mo_gather_70 : decode b_Mo_gather 70 = .ok (.dadd, 1) := by decide +kernel
theorem d_Mo_gather_71 : decode b_Mo_gather 71 = .ok (.goto 12, 3) := by decide +kernel
theorem d_Mo_gather_74 : decode b_Mo_gather 74 = .ok (.aload_n 0, 1) := by decide +kernel
theorem d_Mo_gather_75 : decode b_Mo_gather 75 = .ok (.getfield 87, 3) := by decide +kernel
theorem d_Mo_gather_78 : decode b_Mo_gather 78 = .ok (.iload 5, 2) := by decide +kernel
theorem d_Mo_gather_80 : decode b_Mo_gather 80 = .ok (.daload, 1) := by decide +kernel
theorem d_Mo_gather_81 : decode b_Mo_gather 81 = .ok (.dload_n 3, 1) := by decide +kernel
theorem d_Mo_gather_82 : decode b_Mo_gather 82 = .ok (.dadd, 1) := by decide +kernel
theorem d_Mo_gather_83 : decode b_Mo_gather 83 = .ok (.dstore 7, 2) := by decide +kernel
theorem d_Mo_gather_85 : decode b_Mo_gather 85 = .ok (.dload 7, 2) := by decide +kernel
theorem d_Mo_gather_87 : decode b_Mo_gather 87 = .ok (.ldc2_w 177, 3) := by decide +kernel
theorem d_Mo_gather_90 : decode b_Mo_gather 90 = .ok (.dcmp .l, 1) := by decide +kernel
theorem d_Mo_gather_91 : decode b_Mo_gather 91 = .ok (.ifCond .gt 12, 3) := by decide +kernel
theorem d_Mo_gather_94 : decode b_Mo_gather 94 = .ok (.dload 7, 2) := by decide +kernel
theorem d_Mo_gather_96 : decode b_Mo_gather 96 = .ok (.ldc2_w 179, 3) := by decide +kernel
theorem d_Mo_gather_99 : decode b_Mo_gather 99 = .ok (.dcmp .g, 1) := by decide +kernel
theorem d_Mo_gather_100 : decode b_Mo_gather 100 = .ok (.ifCond .ge 9, 3) := by decide +kernel
theorem d_Mo_gather_103 : decode b_Mo_gather 103 = .ok (.aload_n 0, 1) := by decide +kernel
theorem d_Mo_gather_104 : decode b_Mo_gather 104 = .ok (.iconst 1, 1) := by decide +kernel
theorem d_Mo_gather_105 : decode b_Mo_gather 105 = .ok (.putfield 173, 3) := by decide +kernel
theorem d_Mo_gather_108 : decode b_Mo_gather 108 = .ok (.return_, 1) := by decide +kernel
theorem d_Mo_gather_109 : decode b_Mo_gather 109 = .ok (.iload 6, 2) := by decide +kernel
theorem d_Mo_gather_111 : decode b_Mo_gather 111 = .ok (.ifCond .eq 21, 3) := by decide +kernel
theorem d_Mo_gather_114 : decode b_Mo_gather 114 = .ok (.aload_n 0, 1) := by decide +kernel
theorem d_Mo_gather_115 : decode b_Mo_gather 115 = .ok (.getfield 69, 3) := by decide +kernel
theorem d_Mo_gather_118 : decode b_Mo_gather 118 = .ok (.iload_n 1, 1) := by decide +kernel
theorem d_Mo_gather_119 : decode b_Mo_gather 119 = .ok (.dup2, 1) := by decide +kernel
theorem d_Mo_gather_120 : decode b_Mo_gather 120 = .ok (.iaload, 1) := by decide +kernel
theorem d_Mo_gather_121 : decode b_Mo_gather 121 = .ok (.iconst 1, 1) := by decide +kernel
theorem d_Mo_gather_122 : decode b_Mo_gather 122 = .ok (.iadd, 1) := by decide +kernel
theorem d_Mo_gather_123 : decode b_Mo_gather 123 = .ok (.iastore, 1) := by decide +kernel
theorem d_Mo_gather_124 : decode b_Mo_gather 124 = .ok (.aload_n 0, 1) := by decide +kernel
theorem d_Mo_gather_125 : decode b_Mo_gather 125 = .ok (.getfield 72, 3) := by decide +kernel
theorem d_Mo_gather_128 : decode b_Mo_gather 128 = .ok (.iload 5, 2) := by decide +kernel
theorem d_Mo_gather_130 : decode b_Mo_gather 130 = .ok (.iload_n 2, 1) := by decide +kernel
theorem d_Mo_gather_131 : decode b_Mo_gather 131 = .ok (.iastore, 1) := by decide +kernel
theorem d_Mo_gather_132 : decode b_Mo_gather 132 = .ok (.aload_n 0, 1) := by decide +kernel
theorem d_Mo_gather_133 : decode b_Mo_gather 133 = .ok (.getfield 87, 3) := by decide +kernel
theorem d_Mo_gather_136 : decode b_Mo_gather 136 = .ok (.iload 5, 2) := by decide +kernel
theorem d_Mo_gather_138 : decode b_Mo_gather 138 = .ok (.dload 7, 2) := by decide +kernel
theorem d_Mo_gather_140 : decode b_Mo_gather 140 = .ok (.dastore, 1) := by decide +kernel
theorem d_Mo_gather_141 : decode b_Mo_gather 141 = .ok (.iload 6, 2) := by decide +kernel
theorem d_Mo_gather_143 : decode b_Mo_gather 143 = .ok (.ifCond .ne 15, 3) := by decide +kernel
theorem d_Mo_gather_146 : decode b_Mo_gather 146 = .ok (.dload_n 3, 1) := by decide +kernel
theorem d_Mo_gather_147 : decode b_Mo_gather 147 = .ok (.aload_n 0, 1) := by decide +kernel
theorem d_Mo_gather_148 : decode b_Mo_gather 148 = .ok (.getfield 90, 3) := by decide +kernel
theorem d_Mo_gather_151 : decode b_Mo_gather 151 = .ok (.iload 5, 2) := by decide +kernel
theorem d_Mo_gather_153 : decode b_Mo_gather 153 = .ok (.daload, 1) := by decide +kernel
theorem d_Mo_gather_154 : decode b_Mo_gather 154 = .ok (.dcmp .g, 1) := by decide +kernel
theorem d_Mo_gather_155 : decode b_Mo_gather 155 = .ok (.ifCond .ge 11, 3) := by decide +kernel
theorem d_Mo_gather_158 : decode b_Mo_gather 158 = .ok (.aload_n 0, 1) := by decide +kernel
theorem d_Mo_gather_159 : decode b_Mo_gather 159 = .ok (.getfield 90, 3) := by decide +kernel
theorem d_Mo_gather_162 : decode b_Mo_gather 162 = .ok (.iload 5, 2) := by decide +kernel
theorem d_Mo_gather_164 : decode b_Mo_gather 164 = .ok (.dload_n 3, 1) := by decide +kernel
theorem d_Mo_gather_165 : decode b_Mo_gather 165 = .ok (.dastore, 1) := by decide +kernel
theorem d_Mo_gather_166 : decode b_Mo_gather 166 = .ok (.iload 6, 2) := by decide +kernel
theorem d_Mo_gather_168 : decode b_Mo_gather 168 = .ok (.ifCond .ne 15, 3) := by decide +kernel
theorem d_Mo_gather_171 : decode b_Mo_gather 171 = .ok (.dload_n 3, 1) := by decide +kernel
theorem d_Mo_gather_172 : decode b_Mo_gather 172 = .ok (.aload_n 0, 1) := by decide +kernel
theorem d_Mo_gather_173 : decode b_Mo_gather 173 = .ok (.getfield 93, 3) := by decide +kernel
theorem d_Mo_gather_176 : decode b_Mo_gather 176 = .ok (.iload 5, 2) := by decide +kernel
theorem d_Mo_gather_178 : decode b_Mo_gather 178 = .ok (.daload, 1) := by decide +kernel
theorem d_Mo_gather_179 : decode b_Mo_gather 179 = .ok (.dcmp .l, 1) := by decide +kernel
theorem d_Mo_gather_180 : decode b_Mo_gather 180 = .ok (.ifCond .le 11, 3) := by decide +kernel
theorem d_Mo_gather_183 : decode b_Mo_gather 183 = .ok (.aload_n 0, 1) := by decide +kernel
theorem d_Mo_gather_184 : decode b_Mo_gather 184 = .ok (.getfield 93, 3) := by decide +kernel
theorem d_Mo_gather_187 : decode b_Mo_gather 187 = .ok (.iload 5, 2) := by decide +kernel
theorem d_Mo_gather_189 : decode b_Mo_gather 189 = .ok (.dload_n 3, 1) := by decide +kernel
theorem d_Mo_gather_190 : decode b_Mo_gather 190 = .ok (.dastore, 1) := by decide +kernel
theorem d_Mo_gather_191 : decode b_Mo_gather 191 = .ok (.aload_n 0, 1) := by decide +kernel
theorem d_Mo_gather_192 : decode b_Mo_gather 192 = .ok (.getfield 75, 3) := by decide +kernel
theorem d_Mo_gather_195 : decode b_Mo_gather 195 = .ok (.iload 5, 2) := by decide +kernel
theorem d_Mo_gather_197 : decode b_Mo_gather 197 = .ok (.dup2, 1) := by decide +kernel
theorem d_Mo_gather_198 : decode b_Mo_gather 198 = .ok (.iaload, 1) := by decide +kernel
theorem d_Mo_gather_199 : decode b_Mo_gather 199 = .ok (.iconst 1, 1) := by decide +kernel
theorem d_Mo_gather_200 : decode b_Mo_gather 200 = .ok (.iadd, 1) := by decide +kernel
theorem d_Mo_gather_201 : decode b_Mo_gather 201 = .ok (.iastore, 1) := by decide +kernel
theorem d_Mo_gather_202 : decode b_Mo_gather 202 = .ok (.aload_n 0, 1) := by decide +kernel
theorem d_Mo_gather_203 : decode b_Mo_gather 203 = .ok (.getfield 78, 3) := by decide +kernel
theorem d_Mo_gather_206 : decode b_Mo_gather 206 = .ok (.iload 5, 2) := by decide +kernel
theorem d_Mo_gather_208 : decode b_Mo_gather 208 = .ok (.bipush 8, 2) := by decide +kernel
theorem d_Mo_gather_210 : decode b_Mo_gather 210 = .ok (.imul, 1) := by decide +kernel
theorem d_Mo_gather_211 : decode b_Mo_gather 211 = .ok (.dload_n 3, 1) := by decide +kernel
theorem d_Mo_gather_212 : decode b_Mo_gather 212 = .ok (.invokestatic 198, 3) := by decide +kernel
