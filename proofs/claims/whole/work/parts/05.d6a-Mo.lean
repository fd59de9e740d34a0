theorem d_Mo_init_0 : decode b_Mo_init 0 = .ok (.aload_n 0, 1) := by decide +kernel
theorem d_Mo_init_1 : decode b_Mo_init 1 = .ok (.invokespecial 1, 3) := by decide +kernel
theorem d_Mo_init_4 : decode b_Mo_init 4 = .ok (.aload_n 0, 1) := by decide +kernel
theorem d_Mo_init_5 : decode b_Mo_init 5 = .ok (.bipush 48, 2) := by decide +kernel
theorem d_Mo_init_7 : decode b_Mo_init 7 = .ok (.newarray .int, 2) := by decide +kernel
theorem d_Mo_init_9 : decode b_Mo_init 9 = .ok (.putfield 7, 3) := by decide +kernel
theorem d_Mo_init_12 : decode b_Mo_init 12 = .ok (.aload_n 0, 1) := by decide +kernel
theorem d_Mo_init_13 : decode b_Mo_init 13 = .ok (.sipush 1400, 3) := by decide +kernel
theorem d_Mo_init_16 : decode b_Mo_init 16 = .ok (.newarray .int, 2) := by decide +kernel
theorem d_Mo_init_18 : decode b_Mo_init 18 = .ok (.putfield 13, 3) := by decide +kernel
theorem d_Mo_init_21 : decode b_Mo_init 21 = .ok (.aload_n 0, 1) := by decide +kernel
theorem d_Mo_init_22 : decode b_Mo_init 22 = .ok (.bipush 6, 2) := by decide +kernel
theorem d_Mo_init_24 : decode b_Mo_init 24 = .ok (.newarray .int, 2) := by decide +kernel
theorem d_Mo_init_26 : decode b_Mo_init 26 = .ok (.putfield 16, 3) := by decide +kernel
theorem d_Mo_init_29 : decode b_Mo_init 29 = .ok (.aload_n 0, 1) := by decide +kernel
theorem d_Mo_init_30 : decode b_Mo_init 30 = .ok (.bipush 6, 2) := by decide +kernel
theorem d_Mo_init_32 : decode b_Mo_init 32 = .ok (.newarray .int, 2) := by decide +kernel
theorem d_Mo_init_34 : decode b_Mo_init 34 = .ok (.putfield 19, 3) := by decide +kernel
theorem d_Mo_init_37 : decode b_Mo_init 37 = .ok (.aload_n 0, 1) := by decide +kernel
theorem d_Mo_init_38 : decode b_Mo_init 38 = .ok (.bipush 6, 2) := by decide +kernel
theorem d_Mo_init_40 : decode b_Mo_init 40 = .ok (.newarray .int, 2) := by decide +kernel
theorem d_Mo_init_42 : decode b_Mo_init 42 = .ok (.putfield 22, 3) := by decide +kernel
theorem d_Mo_init_45 : decode b_Mo_init 45 = .ok (.aload_n 0, 1) := by decide +kernel
theorem d_Mo_init_46 : decode b_Mo_init 46 = .ok (.sipush 340, 3) := by decide +kernel
theorem d_Mo_init_49 : decode b_Mo_init 49 = .ok (.newarray .int, 2) := by decide +kernel
theorem d_Mo_init_51 : decode b_Mo_init 51 = .ok (.putfield 25, 3) := by decide +kernel
theorem d_Mo_init_54 : decode b_Mo_init 54 = .ok (.aload_n 0, 1) := by decide +kernel
theorem d_Mo_init_55 : decode b_Mo_init 55 = .ok (.sipush 340, 3) := by decide +kernel
theorem d_Mo_init_58 : decode b_Mo_init 58 = .ok (.newarray .int, 2) := by decide +kernel
theorem d_Mo_init_60 : decode b_Mo_init 60 = .ok (.putfield 28, 3) := by decide +kernel
theorem d_Mo_init_63 : decode b_Mo_init 63 = .ok (.aload_n 0, 1) := by decide +kernel
theorem d_Mo_init_64 : decode b_Mo_init 64 = .ok (.sipush 340, 3) := by decide +kernel
theorem d_Mo_init_67 : decode b_Mo_init 67 = .ok (.newarray .int, 2) := by decide +kernel
theorem d_Mo_init_69 : decode b_Mo_init 69 = .ok (.putfield 31, 3) := by decide +kernel
theorem d_Mo_init_72 : decode b_Mo_init 72 = .ok (.aload_n 0, 1) := by decide +kernel
theorem d_Mo_init_73 : decode b_Mo_init 73 = .ok (.sipush 340, 3) := by decide +kernel
theorem d_Mo_init_76 : decode b_Mo_init 76 = .ok (.newarray .int, 2) := by decide +kernel
theorem d_Mo_init_78 : decode b_Mo_init 78 = .ok (.putfield 34, 3) := by decide +kernel
theorem d_Mo_init_81 : decode b_Mo_init 81 = .ok (.aload_n 0, 1) := by decide +kernel
theorem d_Mo_init_82 : decode b_Mo_init 82 = .ok (.bipush 6, 2) := by decide +kernel
theorem d_Mo_init_84 : decode b_Mo_init 84 = .ok (.newarray .int, 2) := by decide +kernel
theorem d_Mo_init_86 : decode b_Mo_init 86 = .ok (.putfield 37, 3) := by decide +kernel
theorem d_Mo_init_89 : decode b_Mo_init 89 = .ok (.aload_n 0, 1) := by decide +kernel
theorem d_Mo_init_90 : decode b_Mo_init 90 = .ok (.bipush 6, 2) := by decide +kernel
theorem d_Mo_init_92 : decode b_Mo_init 92 = .ok (.newarray .int, 2) := by decide +kernel
theorem d_Mo_init_94 : decode b_Mo_init 94 = .ok (.putfield 40, 3) := by decide +kernel
theorem d_Mo_init_97 : decode b_Mo_init 97 = .ok (.aload_n 0, 1) := by decide +kernel
theorem d_Mo_init_98 : decode b_Mo_init 98 = .ok (.bipush 6, 2) := by decide +kernel
theorem d_Mo_init_100 : decode b_Mo_init 100 = .ok (.newarray .boolean, 2) := by decide +kernel
theorem d_Mo_init_102 : decode b_Mo_init 102 = .ok (.putfield 43, 3) := by decide +kernel
theorem d_Mo_init_105 : decode b_Mo_init 105 = .ok (.aload_n 0, 1) := by decide +kernel
theorem d_Mo_init_106 : decode b_Mo_init 106 = .ok (.bipush 6, 2) := by decide +kernel
theorem d_Mo_init_108 : decode b_Mo_init 108 = .ok (.newarray .boolean, 2) := by decide +kernel
theorem d_Mo_init_110 : decode b_Mo_init 110 = .ok (.putfield 47, 3) := by decide +kernel
theorem d_Mo_init_113 : decode b_Mo_init 113 = .ok (.aload_n 0, 1) := by decide +kernel
theorem d_Mo_init_114 : decode b_Mo_init 114 = .ok (.bipush 8, 2) := by decide +kernel
theorem d_Mo_init_116 : decode b_Mo_init 116 = .ok (.newarray .boolean, 2) := by decide +kernel
theorem d_Mo_init_118 : decode b_Mo_init 118 = .ok (.putfield 50, 3) := by decide +kernel
theorem d_Mo_init_121 : decode b_Mo_init 121 = .ok (.aload_n 0, 1) := by decide +kernel
theorem d_Mo_init_122 : decode b_Mo_init 122 = .ok (.iconst 3, 1) := by decide +kernel
theorem d_Mo_init_123 : decode b_Mo_init 123 = .ok (.newarray .double, 2) := by decide +kernel
theorem d_Mo_init_125 : decode b_Mo_init 125 = .ok (.putfield 53, 3) := by decide +kernel
theorem d_Mo_init_128 : decode b_Mo_init 128 = .ok (.aload_n 0, 1) := by decide +kernel
theorem d_Mo_init_129 : decode b_Mo_init 129 = .ok (.bipush 12, 2) := by decide +kernel
theorem d_Mo_init_131 : decode b_Mo_init 131 = .ok (.newarray .double, 2) := by decide +kernel
theorem d_Mo_init_133 : decode b_Mo_init 133 = .ok (.putfield 57, 3) := by decide +kernel
theorem d_Mo_init_136 : decode b_Mo_init 136 = .ok (.aload_n 0, 1) := by decide +kernel
theorem d_Mo_init_137 : decode b_Mo_init 137 = .ok (.bipush 6, 2) := by decide +kernel
theorem d_Mo_init_139 : decode b_Mo_init 139 = .ok (.newarray .double, 2) := by decide +kernel
theorem d_Mo_init_141 : decode b_Mo_init 141 = .ok (.putfield 60, 3) := by decide +kernel
theorem d_Mo_init_144 : decode b_Mo_init 144 = .ok (.aload_n 0, 1) := by decide +kernel
theorem d_Mo_init_145 : decode b_Mo_init 145 = .ok (.bipush 60, 2) := by decide +kernel
theorem d_Mo_init_147 : decode b_Mo_init 147 = .ok (.newarray .double, 2) := by decide +kernel
theorem d_Mo_init_149 : decode b_Mo_init 149 = .ok (.putfield 63, 3) := by decide +kernel
theorem d_Mo_init_152 : decode b_Mo_init 152 = .ok (.aload_n 0, 1) := by decide +kernel
theorem d_Mo_init_153 : decode b_Mo_init 153 = .ok (.iconst 3, 1) := by decide +kernel
theorem d_Mo_init_154 : decode b_Mo_init 154 = .ok (.newarray .double, 2) := by decide +kernel
theorem d_Mo_init_156 : decode b_Mo_init 156 = .ok (.putfield 66, 3) := by decide +kernel
theorem d_Mo_init_159 : decode b_Mo_init 159 = .ok (.aload_n 0, 1) := by decide +kernel
theorem d_Mo_init_160 : decode b_Mo_init 160 = .ok (.iconst 3, 1) := by decide +kernel
theorem d_Mo_init_161 : decode b_Mo_init 161 = .ok (.newarray .int, 2) := by decide +kernel
theorem d_Mo_init_163 : decode b_Mo_init 163 = .ok (.putfield 69, 3) := by decide +kernel
theorem d_Mo_init_166 : decode b_Mo_init 166 = .ok (.aload_n 0, 1) := by decide +kernel
theorem d_Mo_init_167 : decode b_Mo_init 167 = .ok (.bipush 12, 2) := by decide +kernel
theorem d_Mo_init_169 : decode b_Mo_init 169 = .ok (.newarray .int, 2) := by decide +kernel
theorem d_Mo_init_171 : decode b_Mo_init 171 = .ok (.putfield 72, 3) := by decide +kernel
theorem d_Mo_init_174 : decode b_Mo_init 174 = .ok (.aload_n 0, 1) := by decide +kernel
theorem d_Mo_init_175 : decode b_Mo_init 175 = .ok (.bipush 12, 2) := by decide +kernel
theorem d_Mo_init_177 : decode b_Mo_init 177 = .ok (.newarray .int, 2) := by decide +kernel
theorem d_Mo_init_179 : decode b_Mo_init 179 = .ok (.putfield 75, 3) := by decide +kernel
theorem d_Mo_init_182 : decode b_Mo_init 182 = .ok (.aload_n 0, 1) := by decide +kernel
theorem d_Mo_init_183 : decode b_Mo_init 183 = .ok (.bipush 96, 2) := by decide +kernel
theorem d_Mo_init_185 : decode b_Mo_init 185 = .ok (.newarray .int, 2) := by decide +kernel
theorem d_Mo_init_187 : decode b_Mo_init 187 = .ok (.putfield 78, 3) := by decide +kernel
theorem d_Mo_init_190 : decode b_Mo_init 190 = .ok (.aload_n 0, 1) := by decide +kernel
theorem d_Mo_init_191 : decode b_Mo_init 191 = .ok (.bipush 60, 2) := by decide +kernel
theorem d_Mo_init_193 : decode b_Mo_init 193 = .ok (.newarray .int, 2) := by decide +kernel
theorem d_Mo_init_195 : decode b_Mo_init 195 = .ok (.putfield 81, 3) := by decide +kernel
theorem d_Mo_init_198 : decode b_Mo_init 198 = .ok (.aload_n 0, 1) := by decide +kernel
theorem d_Mo_init_199 : decode b_Mo_init 199 = .ok (.bipush 8, 2) := by decide +kernel
theorem d_Mo_init_201 : decode b_Mo_init 201 = .ok (.newarray .int, 2) := by decide +kernel
theorem d_Mo_init_203 : decode b_Mo_init 203 = .ok (.putfield 84, 3) := by decide +kernel
theorem d_Mo_init_206 : decode b_Mo_init 206 = .ok (.aload_n 0, 1) := by decide +kernel
theorem d_Mo_init_207 : decode b_Mo_init 207 = .ok (.bipush 12, 2) := by decide +kernel
theorem d_Mo_init_209 : decode b_Mo_init 209 = .ok (.newarray .double, 2) := by decide +kernel
theorem d_Mo_init_211 : decode b_Mo_init 211 = .ok (.putfield 87, 3) := by decide +kernel
theorem d_Mo_init_214 : decode b_Mo_init 214 = .ok (.aload_n 0, 1) := by decide +kernel
theorem d_Mo_init_215 : decode b_Mo_init 215 = .ok (.bipush 12, 2) := by decide +kernel
theorem d_Mo_init_217 : decode b_Mo_init 217 = .ok (.newarray .double, 2) := by decide +kernel
theorem d_Mo_init_219 : decode b_Mo_init 219 = .ok (.putfield 90, 3) := by decide +kernel
theorem d_Mo_init_222 : decode b_Mo_init 222 = .ok (.aload_n 0, 1) := by decide +kernel
theorem d_Mo_init_223 : decode b_Mo_init 223 = .ok (.bipush 12, 2) := by decide +kernel
theorem d_Mo_init_225 : decode b_Mo_init 225 = .ok (.newarray .double, 2) := by decide +kernel
theorem d_Mo_init_227 : decode b_Mo_init 227 = .ok (.putfield 93, 3) := by decide +kernel
theorem d_Mo_init_230 : decode b_Mo_init 230 = .ok (.aload_n 0, 1) := by decide +kernel
theorem d_Mo_init_231 : decode b_Mo_init 231 = .ok (.iconst (-1), 1) := by decide +kernel
theorem d_Mo_init_232 : decode b_Mo_init 232 = .ok (.putfield 96, 3) := by decide +kernel
theorem d_Mo_init_235 : decode b_Mo_init 235 = .ok (.return_, 1) := by decide +kernel
theorem d_Mo_thrown_0 : decode b_Mo_thrown 0 = .ok (.aload_n 0, 1) := by decide +kernel
theorem d_Mo_thrown_1 : decode b_Mo_thrown 1 = .ok (.getfield 100, 3) := by decide +kernel
theorem d_Mo_thrown_4 : decode b_Mo_thrown 4 = .ok (.ireturn, 1) := by decide +kernel
theorem d_Mo_in_0 : decode b_Mo_in 0 = .ok (.iload_n 0, 1) := by decide +kernel
theorem d_Mo_in_1 : decode b_Mo_in 1 = .ok (.iload_n 1, 1) := by decide +kernel
theorem d_Mo_in_2 : decode b_Mo_in 2 = .ok (.if_icmp .lt 12, 3) := by decide +kernel
theorem d_Mo_in_5 : decode b_Mo_in 5 = .ok (.iload_n 0, 1) := by decide +kernel
theorem d_Mo_in_6 : decode b_Mo_in 6 = .ok (.iload_n 2, 1) := by decide +kernel
theorem d_Mo_in_7 : decode b_Mo_in 7 = .ok (.if_icmp .gt 7, 3) := by decide +kernel
theorem d_Mo_in_10 : decode b_Mo_in 10 = .ok (.iconst 1, 1) := by decide +kernel
theorem d_Mo_in_11 : decode b_Mo_in 11 = .ok (.goto 4, 3) := by decide +kernel
theorem d_Mo_in_14 : decode b_Mo_in 14 = .ok (.iconst 0, 1) := by decide +kernel
theorem d_Mo_in_15 : decode b_Mo_in 15 = .ok (.ireturn, 1) := by decide +kernel
theorem d_Mo_bad_0 : decode b_Mo_bad 0 = .ok (.aload_n 0, 1) := by decide +kernel
theorem d_Mo_bad_1 : decode b_Mo_bad 1 = .ok (.iload_n 1, 1) := by decide +kernel
theorem d_Mo_bad_2 : decode b_Mo_bad 2 = .ok (.ifCond .eq 7, 3) := by decide +kernel
theorem d_Mo_bad_5 : decode b_Mo_bad 5 = .ok (.iconst 0, 1) := by decide +kernel
theorem d_Mo_bad_6 : decode b_Mo_bad 6 = .ok (.goto 4, 3) := by decide +kernel
theorem d_Mo_bad_9 : decode b_Mo_bad 9 = .ok (.iconst 1, 1) := by decide +kernel
theorem d_Mo_bad_10 : decode b_Mo_bad 10 = .ok (.putfield 100, 3) := by decide +kernel
theorem d_Mo_bad_13 : decode b_Mo_bad 13 = .ok (.iload_n 1, 1) := by decide +kernel
theorem d_Mo_bad_14 : decode b_Mo_bad 14 = .ok (.ifCond .ne 7, 3) := by decide +kernel
theorem d_Mo_bad_17 : decode b_Mo_bad 17 = .ok (.iconst 1, 1) := by decide +kernel
theorem d_Mo_bad_18 : decode b_Mo_bad 18 = .ok (.goto 4, 3) := by decide +kernel
theorem d_Mo_bad_21 : decode b_Mo_bad 21 = .ok (.iconst 0, 1) := by decide +kernel
theorem d_Mo_bad_22 : decode b_Mo_bad 22 = .ok (.ireturn, 1) := by decide +kernel
theorem d_Mo_fail_0 : decode b_Mo_fail 0 = .ok (.aload_n 0, 1) := by decide +kernel
theorem d_Mo_fail_1 : decode b_Mo_fail 1 = .ok (.iload_n 1, 1) := by decide +kernel
theorem d_Mo_fail_2 : decode b_Mo_fail 2 = .ok (.putfield 100, 3) := by decide +kernel
theorem d_Mo_fail_5 : decode b_Mo_fail 5 = .ok (.dconst 0, 1) := by decide +kernel
theorem d_Mo_fail_6 : decode b_Mo_fail 6 = .ok (.dreturn, 1) := by decide +kernel
theorem d_Mo_type_0 : decode b_Mo_type 0 = .ok (.iconst 0, 1) := by decide +kernel
theorem d_Mo_type_1 : decode b_Mo_type 1 = .ok (.istore_n 3, 1) := by decide +kernel
theorem d_Mo_type_2 : decode b_Mo_type 2 = .ok (.iconst 1, 1) := by decide +kernel
theorem d_Mo_type_3 : decode b_Mo_type 3 = .ok (.istore 4, 2) := by decide +kernel
theorem d_Mo_type_5 : decode b_Mo_type 5 = .ok (.bipush 56, 2) := by decide +kernel
theorem d_Mo_type_7 : decode b_Mo_type 7 = .ok (.istore 5, 2) := by decide +kernel
theorem d_Mo_type_9 : decode b_Mo_type 9 = .ok (.iload 5, 2) := by decide +kernel
theorem d_Mo_type_11 : decode b_Mo_type 11 = .ok (.ifCond .lt 48, 3) := by decide +kernel
theorem d_Mo_type_14 : decode b_Mo_type 14 = .ok (.lload_n 1, 1) := by decide +kernel
theorem d_Mo_type_15 : decode b_Mo_type 15 = .ok (.iload 5, 2) := by decide +kernel
theorem d_Mo_type_17 : decode b_Mo_type 17 = .ok (.lushr, 1) := by decide +kernel
theorem d_Mo_type_18 : decode b_Mo_type 18 = .ok (.l2i, 1) := by decide +kernel
theorem d_Mo_type_19 : decode b_Mo_type 19 = .ok (.sipush 255, 3) := by decide +kernel
theorem d_Mo_type_22 : decode b_Mo_type 22 = .ok (.iand, 1) := by decide +kernel
theorem d_Mo_type_23 : decode b_Mo_type 23 = .ok (.istore 6, 2) := by decide +kernel
theorem d_Mo_type_25 : decode b_Mo_type 25 = .ok (.iload 6, 2) := by decide +kernel
theorem d_Mo_type_27 : decode b_Mo_type 27 = .ok (.ifCond .eq 6, 3) := by decide +kernel
theorem d_Mo_type_30 : decode b_Mo_type 30 = .ok (.iinc 3 1, 3) := by decide +kernel
theorem d_Mo_type_33 : decode b_Mo_type 33 = .ok (.iload 6, 2) := by decide +kernel
theorem d_Mo_type_35 : decode b_Mo_type 35 = .ok (.ifCond .eq 18, 3) := by decide +kernel
theorem d_Mo_type_38 : decode b_Mo_type 38 = .ok (.iload 6, 2) := by decide +kernel
theorem d_Mo_type_40 : decode b_Mo_type 40 = .ok (.bipush 33, 2) := by decide +kernel
theorem d_Mo_type_42 : decode b_Mo_type 42 = .ok (.bipush 126, 2) := by decide +kernel
theorem d_Mo_type_44 : decode b_Mo_type 44 = .ok (.invokestatic 103, 3) := by decide +kernel
theorem d_Mo_type_47 : decode b_Mo_type 47 = .ok (.ifCond .ne 6, 3) := by decide +kernel
theorem d_Mo_type_50 : decode b_Mo_type 50 = .ok (.iconst 0, 1) := by decide +kernel
theorem d_Mo_type_51 : decode b_Mo_type 51 = .ok (.istore 4, 2) := by decide +kernel
theorem d_Mo_type_53 : decode b_Mo_type 53 = .ok (.iinc 5 (-8), 3) := by decide +kernel
theorem d_Mo_type_56 : decode b_Mo_type 56 = .ok (.goto (-47), 3) := by decide +kernel
theorem d_Mo_type_59 : decode b_Mo_type 59 = .ok (.aload_n 0, 1) := by decide +kernel
theorem d_Mo_type_60 : decode b_Mo_type 60 = .ok (.iload 4, 2) := by decide +kernel
theorem d_Mo_type_62 : decode b_Mo_type 62 = .ok (.invokevirtual 107, 3) := by decide +kernel
theorem d_Mo_type_65 : decode b_Mo_type 65 = .ok (.ifCond .eq 5, 3) := by decide +kernel
theorem d_Mo_type_68 : decode b_Mo_type 68 = .ok (.iconst 0, 1) := by decide +kernel
theorem d_Mo_type_69 : decode b_Mo_type 69 = .ok (.ireturn, 1) := by decide +kernel
theorem d_Mo_type_70 : decode b_Mo_type 70 = .ok (.aload_n 0, 1) := by decide +kernel
theorem d_Mo_type_71 : decode b_Mo_type 71 = .ok (.getfield 111, 3) := by decide +kernel
theorem d_Mo_type_74 : decode b_Mo_type 74 = .ok (.iload_n 3, 1) := by decide +kernel
theorem d_Mo_type_75 : decode b_Mo_type 75 = .ok (.iadd, 1) := by decide +kernel
theorem d_Mo_type_76 : decode b_Mo_type 76 = .ok (.bipush 48, 2) := by decide +kernel
theorem d_Mo_type_78 : decode b_Mo_type 78 = .ok (.if_icmp .le 10, 3) := by decide +kernel
theorem d_Mo_type_81 : decode b_Mo_type 81 = .ok (.aload_n 0, 1) := by decide +kernel
theorem d_Mo_type_82 : decode b_Mo_type 82 = .ok (.iconst 2, 1) := by decide +kernel
theorem d_Mo_type_83 : decode b_Mo_type 83 = .ok (.putfield 100, 3) := by decide +kernel
theorem d_Mo_type_86 : decode b_Mo_type 86 = .ok (.iconst 0, 1) := by decide +kernel
theorem d_Mo_type_87 : decode b_Mo_type 87 = .ok (.ireturn, 1) := by decide +kernel
theorem d_Mo_type_88 : decode b_Mo_type 88 = .ok (.bipush 56, 2) := by decide +kernel
theorem d_Mo_type_90 : decode b_Mo_type 90 = .ok (.istore 5, 2) := by decide +kernel
theorem d_Mo_type_92 : decode b_Mo_type 92 = .ok (.iload 5, 2) := by decide +kernel
theorem d_Mo_type_94 : decode b_Mo_type 94 = .ok (.ifCond .lt 49, 3) := by decide +kernel
theorem d_Mo_type_97 : decode b_Mo_type 97 = .ok (.lload_n 1, 1) := by decide +kernel
theorem d_Mo_type_98 : decode b_Mo_type 98 = .ok (.iload 5, 2) := by decide +kernel
theorem d_Mo_type_100 : decode b_Mo_type 100 = .ok (.lushr, 1) := by decide +kernel
theorem d_Mo_type_101 : decode b_Mo_type 101 = .ok (.l2i, 1) := by decide +kernel
theorem d_Mo_type_102 : decode b_Mo_type 102 = .ok (.sipush 255, 3) := by decide +kernel
theorem d_Mo_type_105 : decode b_Mo_type 105 = .ok (.iand, 1) := by decide +kernel
theorem d_Mo_type_106 : decode b_Mo_type 106 = .ok (.istore 6, 2) := by decide +kernel
theorem d_Mo_type_108 : decode b_Mo_type 108 = .ok (.iload 6, 2) := by decide +kernel
theorem d_Mo_type_110 : decode b_Mo_type 110 = .ok (.ifCond .ne 6, 3) := by decide +kernel
theorem d_Mo_type_113 : decode b_Mo_type 113 = .ok (.goto 24, 3) := by decide +kernel
theorem d_Mo_type_116 : decode b_Mo_type 116 = .ok (.aload_n 0, 1) := by decide +kernel
theorem d_Mo_type_117 : decode b_Mo_type 117 = .ok (.getfield 7, 3) := by decide +kernel
theorem d_Mo_type_120 : decode b_Mo_type 120 = .ok (.aload_n 0, 1) := by decide +kernel
theorem d_Mo_type_121 : decode b_Mo_type 121 = .ok (.getfield 111, 3) := by decide +kernel
theorem d_Mo_type_124 : decode b_Mo_type 124 = .ok (.iload 6, 2) := by decide +kernel
theorem d_Mo_type_126 : decode b_Mo_type 126 = .ok (.iastore, 1) := by decide +kernel
theorem d_Mo_type_127 : decode b_Mo_type 127 = .ok (.aload_n 0, 1) := by decide +kernel
theorem d_Mo_type_128 : decode b_Mo_type 128 = .ok (.dup, 1) := by decide +kernel
theorem d_Mo_type_129 : decode b_Mo_type 129 = .ok (.getfield 111, 3) := by decide +kernel
theorem d_Mo_type_132 : decode b_Mo_type 132 = .ok (.iconst 1, 1) := by decide +kernel
theorem d_Mo_type_133 : decode b_Mo_type 133 = .ok (.iadd, 1) := by decide +kernel
theorem d_Mo_type_134 : decode b_Mo_type 134 = .ok (.putfield 111, 3) := by decide +kernel
theorem d_Mo_type_137 : decode b_Mo_type 137 = .ok (.iinc 5 (-8), 3) := by decide +kernel
theorem d_Mo_type_140 : decode b_Mo_type 140 = .ok (.goto (-48), 3) := by decide +kernel
theorem d_Mo_type_143 : decode b_Mo_type 143 = .ok (.aload_n 0, 1) := by decide +kernel
theorem d_Mo_type_144 : decode b_Mo_type 144 = .ok (.getfield 111, 3) := by decide +kernel
theorem d_Mo_type_147 : decode b_Mo_type 147 = .ok (.ireturn, 1) := by decide +kernel
theorem d_Mo_look_0 : decode b_Mo_look 0 = .ok (.aload_n 0, 1) := by decide +kernel
theorem d_Mo_look_1 : decode b_Mo_look 1 = .ok (.getfield 114, 3) := by decide +kernel
theorem d_Mo_look_4 : decode b_Mo_look 4 = .ok (.aload_n 0, 1) := by decide +kernel
theorem d_Mo_look_5 : decode b_Mo_look 5 = .ok (.getfield 111, 3) := by decide +kernel
theorem d_Mo_look_8 : decode b_Mo_look 8 = .ok (.if_icmp .ge 15, 3) := by decide +kernel
theorem d_Mo_look_11 : decode b_Mo_look 11 = .ok (.aload_n 0, 1) := by decide +kernel
theorem d_Mo_look_12 : decode b_Mo_look 12 = .ok (.getfield 7, 3) := by decide +kernel
theorem d_Mo_look_15 : decode b_Mo_look 15 = .ok (.aload_n 0, 1) := by decide +kernel
theorem d_Mo_look_16 : decode b_Mo_look 16 = .ok (.getfield 114, 3) := by decide +kernel
theorem d_Mo_look_19 : decode b_Mo_look 19 = .ok (.iaload, 1) := by decide +kernel
theorem d_Mo_look_20 : decode b_Mo_look 20 = .ok (.goto 4, 3) := by decide +kernel
theorem d_Mo_look_23 : decode b_Mo_look 23 = .ok (.iconst 0, 1) := by decide +kernel
theorem d_Mo_look_24 : decode b_Mo_look 24 = .ok (.ireturn, 1) := by decide +kernel
theorem d_Mo_passes_0 : decode b_Mo_passes 0 = .ok (.aload_n 0, 1) := by decide +kernel
theorem d_Mo_passes_1 : decode b_Mo_passes 1 = .ok (.invokevirtual 117, 3) := by decide +kernel
theorem d_Mo_passes_4 : decode b_Mo_passes 4 = .ok (.iload_n 1, 1) := by decide +kernel
theorem d_Mo_passes_5 : decode b_Mo_passes 5 = .ok (.if_icmp .eq 5, 3) := by decide +kernel
theorem d_Mo_passes_8 : decode b_Mo_passes 8 = .ok (.iconst 0, 1) := by decide +kernel
theorem d_Mo_passes_9 : decode b_Mo_passes 9 = .ok (.ireturn, 1) := by decide +kernel
theorem d_Mo_passes_10 : decode b_Mo_passes 10 = .ok (.aload_n 0, 1) := by decide +kernel
theorem d_Mo_passes_11 : decode b_Mo_passes 11 = .ok (.dup, 1) := by decide +kernel
theorem d_Mo_passes_12 : decode b_Mo_passes 12 = .ok (.getfield 114, 3) := by decide +kernel
theorem d_Mo_passes_15 : decode b_Mo_passes 15 = .ok (.iconst 1, 1) := by decide +kernel
theorem d_Mo_passes_16 : decode b_Mo_passes 16 = .ok (.iadd, 1) := by decide +kernel
theorem d_Mo_passes_17 : decode b_Mo_passes 17 = .ok (.putfield 114, 3) := by decide +kernel
theorem d_Mo_passes_20 : decode b_Mo_passes 20 = .ok (.iconst 1, 1) := by decide +kernel
theorem d_Mo_passes_21 : decode b_Mo_passes 21 = .ok (.ireturn, 1) := by decide +kernel
theorem d_Mo_emit_0 : decode b_Mo_emit 0 = .ok (.aload_n 0, 1) := by decide +kernel
theorem d_Mo_emit_1 : decode b_Mo_emit 1 = .ok (.getfield 13, 3) := by decide +kernel
theorem d_Mo_emit_4 : decode b_Mo_emit 4 = .ok (.aload_n 0, 1) := by decide +kernel
theorem d_Mo_emit_5 : decode b_Mo_emit 5 = .ok (.getfield 121, 3) := by decide +kernel
theorem d_Mo_emit_8 : decode b_Mo_emit 8 = .ok (.iload_n 1, 1) := by decide +kernel
theorem d_Mo_emit_9 : decode b_Mo_emit 9 = .ok (.iastore, 1) := by decide +kernel
theorem d_Mo_emit_10 : decode b_Mo_emit 10 = .ok (.aload_n 0, 1) := by decide +kernel
theorem d_Mo_emit_11 : decode b_Mo_emit 11 = .ok (.getfield 13, 3) := by decide +kernel
theorem d_Mo_emit_14 : decode b_Mo_emit 14 = .ok (.aload_n 0, 1) := by decide +kernel
theorem d_Mo_emit_15 : decode b_Mo_emit 15 = .ok (.getfield 121, 3) := by decide +kernel
theorem d_Mo_emit_18 : decode b_Mo_emit 18 = .ok (.iconst 1, 1) := by decide +kernel
theorem d_Mo_emit_19 : decode b_Mo_emit 19 = .ok (.iadd, 1) := by decide +kernel
theorem d_Mo_emit_20 : decode b_Mo_emit 20 = .ok (.iload_n 2, 1) := by decide +kernel
theorem d_Mo_emit_21 : decode b_Mo_emit 21 = .ok (.iastore, 1) := by decide +kernel
theorem d_Mo_emit_22 : decode b_Mo_emit 22 = .ok (.aload_n 0, 1) := by decide +kernel
theorem d_Mo_emit_23 : decode b_Mo_emit 23 = .ok (.dup, 1) := by decide +kernel
theorem d_Mo_emit_24 : decode b_Mo_emit 24 = .ok (.getfield 121, 3) := by decide +kernel
theorem d_Mo_emit_27 : decode b_Mo_emit 27 = .ok (.iconst 2, 1) := by decide +kernel
theorem d_Mo_emit_28 : decode b_Mo_emit 28 = .ok (.iadd, 1) := by decide +kernel
theorem d_Mo_emit_29 : decode b_Mo_emit 29 = .ok (.putfield 121, 3) := by decide +kernel
theorem d_Mo_emit_32 : decode b_Mo_emit 32 = .ok (.return_, 1) := by decide +kernel
theorem d_Mo_rank_0 : decode b_Mo_rank 0 = .ok (.iload_n 0, 1) := by decide +kernel
theorem d_Mo_rank_1 : decode b_Mo_rank 1 = .ok (.bipush 60, 2) := by decide +kernel
theorem d_Mo_rank_3 : decode b_Mo_rank 3 = .ok (.if_icmp .eq 15, 3) := by decide +kernel
theorem d_Mo_rank_6 : decode b_Mo_rank 6 = .ok (.iload_n 0, 1) := by decide +kernel
theorem d_Mo_rank_7 : decode b_Mo_rank 7 = .ok (.bipush 62, 2) := by decide +kernel
theorem d_Mo_rank_9 : decode b_Mo_rank 9 = .ok (.if_icmp .eq 9, 3) := by decide +kernel
theorem d_Mo_rank_12 : decode b_Mo_rank 12 = .ok (.iload_n 0, 1) := by decide +kernel
theorem d_Mo_rank_13 : decode b_Mo_rank 13 = .ok (.bipush 61, 2) := by decide +kernel
theorem d_Mo_rank_15 : decode b_Mo_rank 15 = .ok (.if_icmp .ne 7, 3) := by decide +kernel
theorem d_Mo_rank_18 : decode b_Mo_rank 18 = .ok (.iconst 1, 1) := by decide +kernel
theorem d_Mo_rank_19 : decode b_Mo_rank 19 = .ok (.goto 36, 3) := by decide +kernel
theorem d_Mo_rank_22 : decode b_Mo_rank 22 = .ok (.iload_n 0, 1) := by decide +kernel
theorem d_Mo_rank_23 : decode b_Mo_rank 23 = .ok (.bipush 43, 2) := by decide +kernel
theorem d_Mo_rank_25 : decode b_Mo_rank 25 = .ok (.if_icmp .eq 9, 3) := by decide +kernel
theorem d_Mo_rank_28 : decode b_Mo_rank 28 = .ok (.iload_n 0, 1) := by decide +kernel
theorem d_Mo_rank_29 : decode b_Mo_rank 29 = .ok (.bipush 45, 2) := by decide +kernel
theorem d_Mo_rank_31 : decode b_Mo_rank 31 = .ok (.if_icmp .ne 7, 3) := by decide +kernel
theorem d_Mo_rank_34 : decode b_Mo_rank 34 = .ok (.iconst 2, 1) := by decide +kernel
theorem d_Mo_rank_35 : decode b_Mo_rank 35 = .ok (.goto 20, 3) := by decide +kernel
theorem d_Mo_rank_38 : decode b_Mo_rank 38 = .ok (.iload_n 0, 1) := by decide +kernel
theorem d_Mo_rank_39 : decode b_Mo_rank 39 = .ok (.bipush 42, 2) := by decide +kernel
theorem d_Mo_rank_41 : decode b_Mo_rank 41 = .ok (.if_icmp .eq 9, 3) := by decide +kernel
theorem d_Mo_rank_44 : decode b_Mo_rank 44 = .ok (.iload_n 0, 1) := by decide +kernel
theorem d_Mo_rank_45 : decode b_Mo_rank 45 = .ok (.bipush 58, 2) := by decide +kernel
theorem d_Mo_rank_47 : decode b_Mo_rank 47 = .ok (.if_icmp .ne 7, 3) := by decide +kernel
theorem d_Mo_rank_50 : decode b_Mo_rank 50 = .ok (.iconst 3, 1) := by decide +kernel
theorem d_Mo_rank_51 : decode b_Mo_rank 51 = .ok (.goto 4, 3) := by decide +kernel
theorem d_Mo_rank_54 : decode b_Mo_rank 54 = .ok (.iconst 0, 1) := by decide +kernel
theorem d_Mo_rank_55 : decode b_Mo_rank 55 = .ok (.ireturn, 1) := by decide +kernel
theorem d_Mo_write_0 : decode b_Mo_write 0 = .ok (.aload_n 0, 1) := by decide +kernel
theorem d_Mo_write_1 : decode b_Mo_write 1 = .ok (.getfield 124, 3) := by decide +kernel
theorem d_Mo_write_4 : decode b_Mo_write 4 = .ok (.iload_n 1, 1) := by decide +kernel
theorem d_Mo_write_5 : decode b_Mo_write 5 = .ok (.if_icmp .le 62, 3) := by decide +kernel
theorem d_Mo_write_8 : decode b_Mo_write 8 = .ok (.aload_n 0, 1) := by decide +kernel
theorem d_Mo_write_9 : decode b_Mo_write 9 = .ok (.getfield 81, 3) := by decide +kernel
theorem d_Mo_write_12 : decode b_Mo_write 12 = .ok (.aload_n 0, 1) := by decide +kernel
theorem d_Mo_write_13 : decode b_Mo_write 13 = .ok (.getfield 124, 3) := by decide +kernel
theorem d_Mo_write_16 : decode b_Mo_write 16 = .ok (.iconst 1, 1) := by decide +kernel
theorem d_Mo_write_17 : decode b_Mo_write 17 = .ok (.isub, 1) := by decide +kernel
theorem d_Mo_write_18 : decode b_Mo_write 18 = .ok (.iaload, 1) := by decide +kernel
theorem d_Mo_write_19 : decode b_Mo_write 19 = .ok (.ifCond .le 48, 3) := by decide +kernel
theorem d_Mo_write_22 : decode b_Mo_write 22 = .ok (.aload_n 0, 1) := by decide +kernel
theorem d_Mo_write_23 : decode b_Mo_write 23 = .ok (.getfield 81, 3) := by decide +kernel
theorem d_Mo_write_26 : decode b_Mo_write 26 = .ok (.aload_n 0, 1) := by decide +kernel
theorem d_Mo_write_27 : decode b_Mo_write 27 = .ok (.getfield 124, 3) := by decide +kernel
theorem d_Mo_write_30 : decode b_Mo_write 30 = .ok (.iconst 1, 1) := by decide +kernel
theorem d_Mo_write_31 : decode b_Mo_write 31 = .ok (.isub, 1) := by decide +kernel
theorem d_Mo_write_32 : decode b_Mo_write 32 = .ok (.iaload, 1) := by decide +kernel
theorem d_Mo_write_33 : decode b_Mo_write 33 = .ok (.invokestatic 127, 3) := by decide +kernel
theorem d_Mo_write_36 : decode b_Mo_write 36 = .ok (.iload_n 2, 1) := by decide +kernel
theorem d_Mo_write_37 : decode b_Mo_write 37 = .ok (.if_icmp .lt 30, 3) := by decide +kernel
theorem d_Mo_write_40 : decode b_Mo_write 40 = .ok (.aload_n 0, 1) := by decide +kernel
theorem d_Mo_write_41 : decode b_Mo_write 41 = .ok (.dup, 1) := by decide +kernel
theorem d_Mo_write_42 : decode b_Mo_write 42 = .ok (.getfield 124, 3) := by decide +kernel
theorem d_Mo_write_45 : decode b_Mo_write 45 = .ok (.iconst 1, 1) := by decide +kernel
theorem d_Mo_write_46 : decode b_Mo_write 46 = .ok (.isub, 1) := by decide +kernel
theorem d_Mo_write_47 : decode b_Mo_write 47 = .ok (.putfield 124, 3) := by decide +kernel
theorem d_Mo_write_50 : decode b_Mo_write 50 = .ok (.aload_n 0, 1) := by decide +kernel
theorem d_Mo_write_51 : decode b_Mo_write 51 = .ok (.iconst 3, 1) := by decide +kernel
theorem d_Mo_write_52 : decode b_Mo_write 52 = .ok (.aload_n 0, 1) := by decide +kernel
theorem d_Mo_write_53 : decode b_Mo_write 53 = .ok (.getfield 81, 3) := by decide +kernel
theorem d_Mo_write_56 : decode b_Mo_write 56 = .ok (.aload_n 0, 1) := by decide +kernel
theorem d_Mo_write_57 : decode b_Mo_write 57 = .ok (.getfield 124, 3) := by decide +kernel
theorem d_Mo_write_60 : decode b_Mo_write 60 = .ok (.iaload, 1) := by decide +kernel
theorem d_Mo_write_61 : decode b_Mo_write 61 = .ok (.invokevirtual 131, 3) := by decide +kernel
theorem d_Mo_write_64 : decode b_Mo_write 64 = .ok (.goto (-64), 3) := by decide +kernel
theorem d_Mo_write_67 : decode b_Mo_write 67 = .ok (.return_, 1) := by decide +kernel
theorem d_Mo_writeMinus_0 : decode b_Mo_writeMinus 0 = .ok (.iconst 0, 1) := by decide +kernel
theorem d_Mo_writeMinus_1 : decode b_Mo_writeMinus 1 = .ok (.istore_n 2, 1) := by decide +kernel
theorem d_Mo_writeMinus_2 : decode b_Mo_writeMinus 2 = .ok (.aload_n 0, 1) := by decide +kernel
theorem d_Mo_writeMinus_3 : decode b_Mo_writeMinus 3 = .ok (.getfield 124, 3) := by decide +kernel
theorem d_Mo_writeMinus_6 : decode b_Mo_writeMinus 6 = .ok (.iload_n 1, 1) := by decide +kernel
theorem d_Mo_writeMinus_7 : decode b_Mo_writeMinus 7 = .ok (.if_icmp .le 39, 3) := by decide +kernel
theorem d_Mo_writeMinus_10 : decode b_Mo_writeMinus 10 = .ok (.aload_n 0, 1) := by decide +kernel
theorem d_Mo_writeMinus_11 : decode b_Mo_writeMinus 11 = .ok (.getfield 81, 3) := by decide +kernel
theorem d_Mo_writeMinus_14 : decode b_Mo_writeMinus 14 = .ok (.aload_n 0, 1) := by decide +kernel
theorem d_Mo_writeMinus_15 : decode b_Mo_writeMinus 15 = .ok (.getfield 124, 3) := by decide +kernel
theorem d_Mo_writeMinus_18 : decode b_Mo_writeMinus 18 = .ok (.iconst 1, 1) := by decide +kernel
theorem d_Mo_writeMinus_19 : decode b_Mo_writeMinus 19 = .ok (.isub, 1) := by decide +kernel
theorem d_Mo_writeMinus_20 : decode b_Mo_writeMinus 20 = .ok (.iaload, 1) := by decide +kernel
theorem d_Mo_writeMinus_21 : decode b_Mo_writeMinus 21 = .ok (.ifCond .ne 25, 3) := by decide +kernel
theorem d_Mo_writeMinus_24 : decode b_Mo_writeMinus 24 = .ok (.aload_n 0, 1) := by decide +kernel
theorem d_Mo_writeMinus_25 : decode b_Mo_writeMinus 25 = .ok (.dup, 1) := by decide +kernel
theorem d_Mo_writeMinus_26 : decode b_Mo_writeMinus 26 = .ok (.getfield 124, 3) := by decide +kernel
theorem d_Mo_writeMinus_29 : decode b_Mo_writeMinus 29 = .ok (.iconst 1, 1) := by decide +kernel
theorem d_Mo_writeMinus_30 : decode b_Mo_writeMinus 30 = .ok (.isub, 1) := by decide +kernel
theorem d_Mo_writeMinus_31 : decode b_Mo_writeMinus 31 = .ok (.putfield 124, 3) := by decide +kernel
theorem d_Mo_writeMinus_34 : decode b_Mo_writeMinus 34 = .ok (.iinc 2 1, 3) := by decide +kernel
theorem d_Mo_writeMinus_37 : decode b_Mo_writeMinus 37 = .ok (.aload_n 0, 1) := by decide +kernel
theorem d_Mo_writeMinus_38 : decode b_Mo_writeMinus 38 = .ok (.iconst 4, 1) := by decide +kernel
theorem d_Mo_writeMinus_39 : decode b_Mo_writeMinus 39 = .ok (.iconst 0, 1) := by decide +kernel
theorem d_Mo_writeMinus_40 : decode b_Mo_writeMinus 40 = .ok (.invokevirtual 131, 3) := by decide +kernel
theorem d_Mo_writeMinus_43 : decode b_Mo_writeMinus 43 = .ok (.goto (-41), 3) := by decide +kernel
theorem d_Mo_writeMinus_46 : decode b_Mo_writeMinus 46 = .ok (.iload_n 2, 1) := by decide +kernel
theorem d_Mo_writeMinus_47 : decode b_Mo_writeMinus 47 = .ok (.ireturn, 1) := by decide +kernel
theorem d_Mo_unit_0 : decode b_Mo_unit 0 = .ok (.aload_n 0, 1) := by decide +kernel
theorem d_Mo_unit_1 : decode b_Mo_unit 1 = .ok (.invokevirtual 117, 3) := by decide +kernel
theorem d_Mo_unit_4 : decode b_Mo_unit 4 = .ok (.istore_n 1, 1) := by decide +kernel
theorem d_Mo_unit_5 : decode b_Mo_unit 5 = .ok (.iload_n 1, 1) := by decide +kernel
theorem d_Mo_unit_6 : decode b_Mo_unit 6 = .ok (.bipush 48, 2) := by decide +kernel
theorem d_Mo_unit_8 : decode b_Mo_unit 8 = .ok (.bipush 57, 2) := by decide +kernel
theorem d_Mo_unit_10 : decode b_Mo_unit 10 = .ok (.invokestatic 103, 3) := by decide +kernel
theorem d_Mo_unit_13 : decode b_Mo_unit 13 = .ok (.ifCond .eq 63, 3) := by decide +kernel
theorem d_Mo_unit_16 : decode b_Mo_unit 16 = .ok (.iconst 0, 1) := by decide +kernel
theorem d_Mo_unit_17 : decode b_Mo_unit 17 = .ok (.istore_n 2, 1) := by decide +kernel
theorem d_Mo_unit_18 : decode b_Mo_unit 18 = .ok (.iconst 0, 1) := by decide +kernel
theorem d_Mo_unit_19 : decode b_Mo_unit 19 = .ok (.istore_n 3, 1) := by decide +kernel
theorem d_Mo_unit_20 : decode b_Mo_unit 20 = .ok (.iload_n 3, 1) := by decide +kernel
theorem d_Mo_unit_21 : decode b_Mo_unit 21 = .ok (.iconst 3, 1) := by decide +kernel
theorem d_Mo_unit_22 : decode b_Mo_unit 22 = .ok (.if_icmp .ge 46, 3) := by decide +kernel
theorem d_Mo_unit_25 : decode b_Mo_unit 25 = .ok (.aload_n 0, 1) := by decide +kernel
theorem d_Mo_unit_26 : decode b_Mo_unit 26 = .ok (.invokevirtual 117, 3) := by decide +kernel
theorem d_Mo_unit_29 : decode b_Mo_unit 29 = .ok (.bipush 48, 2) := by decide +kernel
theorem d_Mo_unit_31 : decode b_Mo_unit 31 = .ok (.bipush 57, 2) := by decide +kernel
theorem d_Mo_unit_33 : decode b_Mo_unit 33 = .ok (.invokestatic 103, 3) := by decide +kernel
theorem d_Mo_unit_36 : decode b_Mo_unit 36 = .ok (.ifCond .eq 32, 3) := by decide +kernel
theorem d_Mo_unit_39 : decode b_Mo_unit 39 = .ok (.iload_n 2, 1) := by decide +kernel
theorem d_Mo_unit_40 : decode b_Mo_unit 40 = .ok (.bipush 10, 2) := by decide +kernel
theorem d_Mo_unit_42 : decode b_Mo_unit 42 = .ok (.imul, 1) := by decide +kernel
theorem d_Mo_unit_43 : decode b_Mo_unit 43 = .ok (.aload_n 0, 1) := by decide +kernel
theorem d_Mo_unit_44 : decode b_Mo_unit 44 = .ok (.invokevirtual 117, 3) := by decide +kernel
theorem d_Mo_unit_47 : decode b_Mo_unit 47 = .ok (.iadd, 1) := by decide +kernel
theorem d_Mo_unit_48 : decode b_Mo_unit 48 = .ok (.bipush 48, 2) := by decide +kernel
theorem d_Mo_unit_50 : decode b_Mo_unit 50 = .ok (.isub, 1) := by decide +kernel
theorem d_Mo_unit_51 : decode b_Mo_unit 51 = .ok (.istore_n 2, 1) := by decide +kernel
theorem d_Mo_unit_52 : decode b_Mo_unit 52 = .ok (.aload_n 0, 1) := by decide +kernel
theorem d_Mo_unit_53 : decode b_Mo_unit 53 = .ok (.dup, 1) := by decide +kernel
theorem d_Mo_unit_54 : decode b_Mo_unit 54 = .ok (.getfield 114, 3) := by decide +kernel
theorem d_Mo_unit_57 : decode b_Mo_unit 57 = .ok (.iconst 1, 1) := by decide +kernel
theorem d_Mo_unit_58 : decode b_Mo_unit 58 = .ok (.iadd, 1) := by decide +kernel
theorem d_Mo_unit_59 : decode b_Mo_unit 59 = .ok (.putfield 114, 3) := by decide +kernel
theorem d_Mo_unit_62 : decode b_Mo_unit 62 = .ok (.iinc 3 1, 3) := by decide +kernel
theorem d_Mo_unit_65 : decode b_Mo_unit 65 = .ok (.goto (-45), 3) := by decide +kernel
theorem d_Mo_unit_68 : decode b_Mo_unit 68 = .ok (.aload_n 0, 1) := by decide +kernel
theorem d_Mo_unit_69 : decode b_Mo_unit 69 = .ok (.iconst 1, 1) := by decide +kernel
theorem d_Mo_unit_70 : decode b_Mo_unit 70 = .ok (.iload_n 2, 1) := by decide +kernel
theorem d_Mo_unit_71 : decode b_Mo_unit 71 = .ok (.invokevirtual 131, 3) := by decide +kernel
theorem d_Mo_unit_74 : decode b_Mo_unit 74 = .ok (.iconst 1, 1) := by decide +kernel
theorem d_Mo_unit_75 : decode b_Mo_unit 75 = .ok (.ireturn, 1) := by decide +kernel
theorem d_Mo_unit_76 : decode b_Mo_unit 76 = .ok (.iload_n 1, 1) := by decide +kernel
theorem d_Mo_unit_77 : decode b_Mo_unit 77 = .ok (.bipush 97, 2) := by decide +kernel
theorem d_Mo_unit_79 : decode b_Mo_unit 79 = .ok (.bipush 99, 2) := by decide +kernel
theorem d_Mo_unit_81 : decode b_Mo_unit 81 = .ok (.invokestatic 103, 3) := by decide +kernel
theorem d_Mo_unit_84 : decode b_Mo_unit 84 = .ok (.ifCond .ne 28, 3) := by decide +kernel
theorem d_Mo_unit_87 : decode b_Mo_unit 87 = .ok (.iload_n 1, 1) := by decide +kernel
theorem d_Mo_unit_88 : decode b_Mo_unit 88 = .ok (.bipush 116, 2) := by decide +kernel
theorem d_Mo_unit_90 : decode b_Mo_unit 90 = .ok (.if_icmp .eq 22, 3) := by decide +kernel
theorem d_Mo_unit_93 : decode b_Mo_unit 93 = .ok (.iload_n 1, 1) := by decide +kernel
theorem d_Mo_unit_94 : decode b_Mo_unit 94 = .ok (.bipush 107, 2) := by decide +kernel
theorem d_Mo_unit_96 : decode b_Mo_unit 96 = .ok (.if_icmp .eq 16, 3) := by decide +kernel
theorem d_Mo_unit_99 : decode b_Mo_unit 99 = .ok (.iload_n 1, 1) := by decide +kernel
theorem d_Mo_unit_100 : decode b_Mo_unit 100 = .ok (.bipush 117, 2) := by decide +kernel
theorem d_Mo_unit_102 : decode b_Mo_unit 102 = .ok (.bipush 122, 2) := by decide +kernel
theorem d_Mo_unit_104 : decode b_Mo_unit 104 = .ok (.invokestatic 103, 3) := by decide +kernel
theorem d_Mo_unit_107 : decode b_Mo_unit 107 = .ok (.ifCond .ne 5, 3) := by decide +kernel
theorem d_Mo_unit_110 : decode b_Mo_unit 110 = .ok (.iconst 0, 1) := by decide +kernel
theorem d_Mo_unit_111 : decode b_Mo_unit 111 = .ok (.ireturn, 1) := by decide +kernel
theorem d_Mo_unit_112 : decode b_Mo_unit 112 = .ok (.aload_n 0, 1) := by decide +kernel
theorem d_Mo_unit_113 : decode b_Mo_unit 113 = .ok (.iconst 2, 1) := by decide +kernel
theorem d_Mo_unit_114 : decode b_Mo_unit 114 = .ok (.iload_n 1, 1) := by decide +kernel
theorem d_Mo_unit_115 : decode b_Mo_unit 115 = .ok (.invokevirtual 131, 3) := by decide +kernel
theorem d_Mo_unit_118 : decode b_Mo_unit 118 = .ok (.aload_n 0, 1) := by decide +kernel
theorem d_Mo_unit_119 : decode b_Mo_unit 119 = .ok (.dup, 1) := by decide +kernel
theorem d_Mo_unit_120 : decode b_Mo_unit 120 = .ok (.getfield 114, 3) := by decide +kernel
theorem d_Mo_unit_123 : decode b_Mo_unit 123 = .ok (.iconst 1, 1) := by decide +kernel
theorem d_Mo_unit_124 : decode b_Mo_unit 124 = .ok (.iadd, 1) := by decide +kernel
theorem d_Mo_unit_125 : decode b_Mo_unit 125 = .ok (.putfield 114, 3) := by decide +kernel
theorem d_Mo_unit_128 : decode b_Mo_unit 128 = .ok (.iconst 1, 1) := by decide +kernel
theorem d_Mo_unit_129 : decode b_Mo_unit 129 = .ok (.ireturn, 1) := by decide +kernel
theorem d_Mo_expression_0 : decode b_Mo_expression 0 = .ok (.iconst 0, 1) := by decide +kernel
theorem d_Mo_expression_1 : decode b_Mo_expression 1 = .ok (.istore_n 1, 1) := by decide +kernel
theorem d_Mo_expression_2 : decode b_Mo_expression 2 = .ok (.iconst 0, 1) := by decide +kernel
theorem d_Mo_expression_3 : decode b_Mo_expression 3 = .ok (.istore_n 2, 1) := by decide +kernel
theorem d_Mo_expression_4 : decode b_Mo_expression 4 = .ok (.iconst 1, 1) := by decide +kernel
theorem d_Mo_expression_5 : decode b_Mo_expression 5 = .ok (.istore_n 3, 1) := by decide +kernel
theorem d_Mo_expression_6 : decode b_Mo_expression 6 = .ok (.aload_n 0, 1) := by decide +kernel
theorem d_Mo_expression_7 : decode b_Mo_expression 7 = .ok (.iconst 0, 1) := by decide +kernel
theorem d_Mo_expression_8 : decode b_Mo_expression 8 = .ok (.putfield 124, 3) := by decide +kernel
theorem d_Mo_expression_11 : decode b_Mo_expression 11 = .ok (.aload_n 0, 1) := by decide +kernel
theorem d_Mo_expression_12 : decode b_Mo_expression 12 = .ok (.getfield 84, 3) := by decide +kernel
theorem d_Mo_expression_15 : decode b_Mo_expression 15 = .ok (.iconst 0, 1) := by decide +kernel
theorem d_Mo_expression_16 : decode b_Mo_expression 16 = .ok (.iconst 0, 1) := by decide +kernel
theorem d_Mo_expression_17 : decode b_Mo_expression 17 = .ok (.iastore, 1) := by decide +kernel
theorem d_Mo_expression_18 : decode b_Mo_expression 18 = .ok (.aload_n 0, 1) := by decide +kernel
theorem d_Mo_expression_19 : decode b_Mo_expression 19 = .ok (.getfield 50, 3) := by decide +kernel
theorem d_Mo_expression_22 : decode b_Mo_expression 22 = .ok (.iconst 0, 1) := by decide +kernel
theorem d_Mo_expression_23 : decode b_Mo_expression 23 = .ok (.iconst 0, 1) := by decide +kernel
theorem d_Mo_expression_24 : decode b_Mo_expression 24 = .ok (.bastore, 1) := by decide +kernel
theorem d_Mo_expression_25 : decode b_Mo_expression 25 = .ok (.aload_n 0, 1) := by decide +kernel
theorem d_Mo_expression_26 : decode b_Mo_expression 26 = .ok (.invokevirtual 117, 3) := by decide +kernel
theorem d_Mo_expression_29 : decode b_Mo_expression 29 = .ok (.istore 4, 2) := by decide +kernel
theorem d_Mo_expression_31 : decode b_Mo_expression 31 = .ok (.iload_n 3, 1) := by decide +kernel
theorem d_Mo_expression_32 : decode b_Mo_expression 32 = .ok (.ifCond .eq 115, 3) := by decide +kernel
theorem d_Mo_expression_35 : decode b_Mo_expression 35 = .ok (.aload_n 0, 1) := by decide +kernel
theorem d_Mo_expression_36 : decode b_Mo_expression 36 = .ok (.invokevirtual 135, 3) := by decide +kernel
theorem d_Mo_expression_39 : decode b_Mo_expression 39 = .ok (.ifCond .eq 21, 3) := by decide +kernel
theorem d_Mo_expression_42 : decode b_Mo_expression 42 = .ok (.iload_n 2, 1) := by decide +kernel
theorem d_Mo_expression_43 : decode b_Mo_expression 43 = .ok (.aload_n 0, 1) := by decide +kernel
theorem d_Mo_expression_44 : decode b_Mo_expression 44 = .ok (.aload_n 0, 1) := by decide +kernel
theorem d_Mo_expression_45 : decode b_Mo_expression 45 = .ok (.getfield 84, 3) := by decide +kernel
theorem d_Mo_expression_48 : decode b_Mo_expression 48 = .ok (.iload_n 1, 1) := by decide +kernel
theorem d_Mo_expression_49 : decode b_Mo_expression 49 = .ok (.iaload, 1) := by decide +kernel
theorem d_Mo_expression_50 : decode b_Mo_expression 50 = .ok (.invokevirtual 139, 3) := by decide +kernel
theorem d_Mo_expression_53 : decode b_Mo_expression 53 = .ok (.isub, 1) := by decide +kernel
theorem d_Mo_expression_54 : decode b_Mo_expression 54 = .ok (.istore_n 2, 1) := by decide +kernel
theorem d_Mo_expression_55 : decode b_Mo_expression 55 = .ok (.iconst 0, 1) := by decide +kernel
theorem d_Mo_expression_56 : decode b_Mo_expression 56 = .ok (.istore_n 3, 1) := by decide +kernel
theorem d_Mo_expression_57 : decode b_Mo_expression 57 = .ok (.goto (-32), 3) := by decide +kernel
theorem d_Mo_expression_60 : decode b_Mo_expression 60 = .ok (.iload 4, 2) := by decide +kernel
theorem d_Mo_expression_62 : decode b_Mo_expression 62 = .ok (.bipush 40, 2) := by decide +kernel
theorem d_Mo_expression_64 : decode b_Mo_expression 64 = .ok (.if_icmp .eq 10, 3) := by decide +kernel
theorem d_Mo_expression_67 : decode b_Mo_expression 67 = .ok (.iload 4, 2) := by decide +kernel
theorem d_Mo_expression_69 : decode b_Mo_expression 69 = .ok (.bipush 45, 2) := by decide +kernel
theorem d_Mo_expression_71 : decode b_Mo_expression 71 = .ok (.if_icmp .ne 8, 3) := by decide +kernel
theorem d_Mo_expression_74 : decode b_Mo_expression 74 = .ok (.iload_n 2, 1) := by decide +kernel
theorem d_Mo_expression_75 : decode b_Mo_expression 75 = .ok (.iconst 5, 1) := by decide +kernel
theorem d_Mo_expression_76 : decode b_Mo_expression 76 = .ok (.if_icmp .ne 5, 3) := by decide +kernel
theorem d_Mo_expression_79 : decode b_Mo_expression 79 = .ok (.iconst 0, 1) := by decide +kernel
theorem d_Mo_expression_80 : decode b_Mo_expression 80 = .ok (.ireturn, 1) := by decide +kernel
theorem d_Mo_expression_81 : decode b_Mo_expression 81 = .ok (.iinc 2 1, 3) := by decide +kernel
theorem d_Mo_expression_84 : decode b_Mo_expression 84 = .ok (.aload_n 0, 1) := by decide +kernel
theorem d_Mo_expression_85 : decode b_Mo_expression 85 = .ok (.dup, 1) := by decide +kernel
theorem d_Mo_expression_86 : decode b_Mo_expression 86 = .ok (.getfield 114, 3) := by decide +kernel
theorem d_Mo_expression_89 : decode b_Mo_expression 89 = .ok (.iconst 1, 1) := by decide +kernel
theorem d_Mo_expression_90 : decode b_Mo_expression 90 = .ok (.iadd, 1) := by decide +kernel
theorem d_Mo_expression_91 : decode b_Mo_expression 91 = .ok (.putfield 114, 3) := by decide +kernel
theorem d_Mo_expression_94 : decode b_Mo_expression 94 = .ok (.iload 4, 2) := by decide +kernel
theorem d_Mo_expression_96 : decode b_Mo_expression 96 = .ok (.bipush 45, 2) := by decide +kernel
theorem d_Mo_expression_98 : decode b_Mo_expression 98 = .ok (.if_icmp .ne 26, 3) := by decide +kernel
theorem d_Mo_expression_101 : decode b_Mo_expression 101 = .ok (.aload_n 0, 1) := by decide +kernel
theorem d_Mo_expression_102 : decode b_Mo_expression 102 = .ok (.getfield 81, 3) := by decide +kernel
theorem d_Mo_expression_105 : decode b_Mo_expression 105 = .ok (.aload_n 0, 1) := by decide +kernel
theorem d_Mo_expression_106 : decode b_Mo_expression 106 = .ok (.getfield 124, 3) := by decide +kernel
theorem d_Mo_expression_109 : decode b_Mo_expression 109 = .ok (.iconst 0, 1) := by decide +kernel
theorem d_Mo_expression_110 : decode b_Mo_expression 110 = .ok (.iastore, 1) := by decide +kernel
theorem d_Mo_expression_111 : decode b_Mo_expression 111 = .ok (.aload_n 0, 1) := by decide +kernel
theorem d_Mo_expression_112 : decode b_Mo_expression 112 = .ok (.dup, 1) := by decide +kernel
theorem d_Mo_expression_113 : decode b_Mo_expression 113 = .ok (.getfield 124, 3) := by decide +kernel
theorem d_Mo_expression_116 : decode b_Mo_expression 116 = .ok (.iconst 1, 1) := by decide +kernel
theorem d_Mo_expression_117 : decode b_Mo_expression 117 = .ok (.iadd, 1) := by decide +kernel
theorem d_Mo_expression_118 : decode b_Mo_expression 118 = .ok (.putfield 124, 3) := by decide +kernel
theorem d_Mo_expression_121 : decode b_Mo_expression 121 = .ok (.goto (-96), 3) := by decide +kernel
theorem d_Mo_expression_124 : decode b_Mo_expression 124 = .ok (.iinc 1 1, 3) := by decide +kernel
theorem d_Mo_expression_127 : decode b_Mo_expression 127 = .ok (.aload_n 0, 1) := by decide +kernel
theorem d_Mo_expression_128 : decode b_Mo_expression 128 = .ok (.getfield 84, 3) := by decide +kernel
theorem d_Mo_expression_131 : decode b_Mo_expression 131 = .ok (.iload_n 1, 1) := by decide +kernel
theorem d_Mo_expression_132 : decode b_Mo_expression 132 = .ok (.aload_n 0, 1) := by decide +kernel
theorem d_Mo_expression_133 : decode b_Mo_expression 133 = .ok (.getfield 124, 3) := by decide +kernel
theorem d_Mo_expression_136 : decode b_Mo_expression 136 = .ok (.iastore, 1) := by decide +kernel
theorem d_Mo_expression_137 : decode b_Mo_expression 137 = .ok (.aload_n 0, 1) := by decide +kernel
theorem d_Mo_expression_138 : decode b_Mo_expression 138 = .ok (.getfield 50, 3) := by decide +kernel
theorem d_Mo_expression_141 : decode b_Mo_expression 141 = .ok (.iload_n 1, 1) := by decide +kernel
theorem d_Mo_expression_142 : decode b_Mo_expression 142 = .ok (.iconst 0, 1) := by decide +kernel
theorem d_Mo_expression_143 : decode b_Mo_expression 143 = .ok (.bastore, 1) := by decide +kernel
theorem d_Mo_expression_144 : decode b_Mo_expression 144 = .ok (.goto 150, 3) := by decide +kernel
theorem d_Mo_expression_147 : decode b_Mo_expression 147 = .ok (.iload 4, 2) := by decide +kernel
theorem d_Mo_expression_149 : decode b_Mo_expression 149 = .ok (.invokestatic 127, 3) := by decide +kernel
theorem d_Mo_expression_152 : decode b_Mo_expression 152 = .ok (.iconst 1, 1) := by decide +kernel
theorem d_Mo_expression_153 : decode b_Mo_expression 153 = .ok (.if_icmp .gt 21, 3) := by decide +kernel
theorem d_Mo_expression_156 : decode b_Mo_expression 156 = .ok (.iload 4, 2) := by decide +kernel
theorem d_Mo_expression_158 : decode b_Mo_expression 158 = .ok (.invokestatic 127, 3) := by decide +kernel
theorem d_Mo_expression_161 : decode b_Mo_expression 161 = .ok (.iconst 1, 1) := by decide +kernel
theorem d_Mo_expression_162 : decode b_Mo_expression 162 = .ok (.if_icmp .ne 79, 3) := by decide +kernel
theorem d_Mo_expression_165 : decode b_Mo_expression 165 = .ok (.aload_n 0, 1) := by decide +kernel
theorem d_Mo_expression_166 : decode b_Mo_expression 166 = .ok (.getfield 50, 3) := by decide +kernel
theorem d_Mo_expression_169 : decode b_Mo_expression 169 = .ok (.iload_n 1, 1) := by decide +kernel
theorem d_Mo_expression_170 : decode b_Mo_expression 170 = .ok (.baload, 1) := by decide +kernel
theorem d_Mo_expression_171 : decode b_Mo_expression 171 = .ok (.ifCond .ne 70, 3) := by decide +kernel
theorem d_Mo_expression_174 : decode b_Mo_expression 174 = .ok (.iload 4, 2) := by decide +kernel
theorem d_Mo_expression_176 : decode b_Mo_expression 176 = .ok (.invokestatic 127, 3) := by decide +kernel
theorem d_Mo_expression_179 : decode b_Mo_expression 179 = .ok (.iconst 1, 1) := by decide +kernel
theorem d_Mo_expression_180 : decode b_Mo_expression 180 = .ok (.if_icmp .ne 10, 3) := by decide +kernel
theorem d_Mo_expression_183 : decode b_Mo_expression 183 = .ok (.aload_n 0, 1) := by decide +kernel
theorem d_Mo_expression_184 : decode b_Mo_expression 184 = .ok (.getfield 50, 3) := by decide +kernel
theorem d_Mo_expression_187 : decode b_Mo_expression 187 = .ok (.iload_n 1, 1) := by decide +kernel
theorem d_Mo_expression_188 : decode b_Mo_expression 188 = .ok (.iconst 1, 1) := by decide +kernel
theorem d_Mo_expression_189 : decode b_Mo_expression 189 = .ok (.bastore, 1) := by decide +kernel
theorem d_Mo_expression_190 : decode b_Mo_expression 190 = .ok (.aload_n 0, 1) := by decide +kernel
theorem d_Mo_expression_191 : decode b_Mo_expression 191 = .ok (.aload_n 0, 1) := by decide +kernel
theorem d_Mo_expression_192 : decode b_Mo_expression 192 = .ok (.getfield 84, 3) := by decide +kernel
theorem d_Mo_expression_195 : decode b_Mo_expression 195 = .ok (.iload_n 1, 1) := by decide +kernel
theorem d_Mo_expression_196 : decode b_Mo_expression 196 = .ok (.iaload, 1) := by decide +kernel
theorem d_Mo_expression_197 : decode b_Mo_expression 197 = .ok (.iload 4, 2) := by decide +kernel
theorem d_Mo_expression_199 : decode b_Mo_expression 199 = .ok (.invokestatic 127, 3) := by decide +kernel
theorem d_Mo_expression_202 : decode b_Mo_expression 202 = .ok (.invokevirtual 142, 3) := by decide +kernel
theorem d_Mo_expression_205 : decode b_Mo_expression 205 = .ok (.aload_n 0, 1) := by decide +kernel
theorem d_Mo_expression_206 : decode b_Mo_expression 206 = .ok (.getfield 81, 3) := by decide +kernel
theorem d_Mo_expression_209 : decode b_Mo_expression 209 = .ok (.aload_n 0, 1) := by decide +kernel
theorem d_Mo_expression_210 : decode b_Mo_expression 210 = .ok (.getfield 124, 3) := by decide +kernel
theorem d_Mo_expression_213 : decode b_Mo_expression 213 = .ok (.iload 4, 2) := by decide +kernel
theorem d_Mo_expression_215 : decode b_Mo_expression 215 = .ok (.iastore, 1) := by decide +kernel
theorem d_Mo_expression_216 : decode b_Mo_expression 216 = .ok (.aload_n 0, 1) := by decide +kernel
theorem d_Mo_expression_217 : decode b_Mo_expression 217 = .ok (.dup, 1) := by decide +kernel
theorem d_Mo_expression_218 : decode b_Mo_expression 218 = .ok (.getfield 124, 3) := by decide +kernel
theorem d_Mo_expression_221 : decode b_Mo_expression 221 = .ok (.iconst 1, 1) := by decide +kernel
theorem d_Mo_expression_222 : decode b_Mo_expression 222 = .ok (.iadd, 1) := by decide +kernel
theorem d_Mo_expression_223 : decode b_Mo_expression 223 = .ok (.putfield 124, 3) := by decide +kernel
theorem d_Mo_expression_226 : decode b_Mo_expression 226 = .ok (.aload_n 0, 1) := by decide +kernel
theorem d_Mo_expression_227 : decode b_Mo_expression 227 = .ok (.dup, 1) := by decide +kernel
theorem d_Mo_expression_228 : decode b_Mo_expression 228 = .ok (.getfield 114, 3) := by decide +kernel
theorem d_Mo_expression_231 : decode b_Mo_expression 231 = .ok (.iconst 1, 1) := by decide +kernel
theorem d_Mo_expression_232 : decode b_Mo_expression 232 = .ok (.iadd, 1) := by decide +kernel
theorem d_Mo_expression_233 : decode b_Mo_expression 233 = .ok (.putfield 114, 3) := by decide +kernel
theorem d_Mo_expression_236 : decode b_Mo_expression 236 = .ok (.iconst 1, 1) := by decide +kernel
theorem d_Mo_expression_237 : decode b_Mo_expression 237 = .ok (.istore_n 3, 1) := by decide +kernel
theorem d_Mo_expression_238 : decode b_Mo_expression 238 = .ok (.goto 56, 3) := by decide +kernel
theorem d_Mo_expression_241 : decode b_Mo_expression 241 = .ok (.aload_n 0, 1) := by decide +kernel
theorem d_Mo_expression_242 : decode b_Mo_expression 242 = .ok (.aload_n 0, 1) := by decide +kernel
theorem d_Mo_expression_243 : decode b_Mo_expression 243 = .ok (.getfield 84, 3) := by decide +kernel
theorem d_Mo_expression_246 : decode b_Mo_expression 246 = .ok (.iload_n 1, 1) := by decide +kernel
theorem d_Mo_expression_247 : decode b_Mo_expression 247 = .ok (.iaload, 1) := by decide +kernel
theorem d_Mo_expression_248 : decode b_Mo_expression 248 = .ok (.iconst 1, 1) := by decide +kernel
theorem d_Mo_expression_249 : decode b_Mo_expression 249 = .ok (.invokevirtual 142, 3) := by decide +kernel
theorem d_Mo_expression_252 : decode b_Mo_expression 252 = .ok (.iload_n 1, 1) := by decide +kernel
theorem d_Mo_expression_253 : decode b_Mo_expression 253 = .ok (.ifCond .ne 11, 3) := by decide +kernel
theorem d_Mo_expression_256 : decode b_Mo_expression 256 = .ok (.aload_n 0, 1) := by decide +kernel
theorem d_Mo_expression_257 : decode b_Mo_expression 257 = .ok (.iconst 0, 1) := by decide +kernel
theorem d_Mo_expression_258 : decode b_Mo_expression 258 = .ok (.iconst 0, 1) := by decide +kernel
theorem d_Mo_expression_259 : decode b_Mo_expression 259 = .ok (.invokevirtual 131, 3) := by decide +kernel
theorem d_Mo_expression_262 : decode b_Mo_expression 262 = .ok (.iconst 1, 1) := by decide +kernel
theorem d_Mo_expression_263 : decode b_Mo_expression 263 = .ok (.ireturn, 1) := by decide +kernel
theorem d_Mo_expression_264 : decode b_Mo_expression 264 = .ok (.aload_n 0, 1) := by decide +kernel
theorem d_Mo_expression_265 : decode b_Mo_expression 265 = .ok (.bipush 41, 2) := by decide +kernel
theorem d_Mo_expression_267 : decode b_Mo_expression 267 = .ok (.invokevirtual 145, 3) := by decide +kernel
theorem d_Mo_expression_270 : decode b_Mo_expression 270 = .ok (.ifCond .ne 5, 3) := by decide +kernel
theorem d_Mo_expression_273 : decode b_Mo_expression 273 = .ok (.iconst 0, 1) := by decide +kernel
theorem d_Mo_expression_274 : decode b_Mo_expression 274 = .ok (.ireturn, 1) := by decide +kernel
theorem d_Mo_expression_275 : decode b_Mo_expression 275 = .ok (.iinc 1 (-1), 3) := by decide +kernel
theorem d_Mo_expression_278 : decode b_Mo_expression 278 = .ok (.iinc 2 (-1), 3) := by decide +kernel
theorem d_Mo_expression_281 : decode b_Mo_expression 281 = .ok (.iload_n 2, 1) := by decide +kernel
theorem d_Mo_expression_282 : decode b_Mo_expression 282 = .ok (.aload_n 0, 1) := by decide +kernel
theorem d_Mo_expression_283 : decode b_Mo_expression 283 = .ok (.aload_n 0, 1) := by decide +kernel
theorem d_Mo_expression_284 : decode b_Mo_expression 284 = .ok (.getfield 84, 3) := by decide +kernel
theorem d_Mo_expression_287 : decode b_Mo_expression 287 = .ok (.iload_n 1, 1) := by decide +kernel
theorem d_Mo_expression_288 : decode b_Mo_expression 288 = .ok (.iaload, 1) := by decide +kernel
theorem d_Mo_expression_289 : decode b_Mo_expression 289 = .ok (.invokevirtual 139, 3) := by decide +kernel
theorem d_Mo_expression_292 : decode b_Mo_expression 292 = .ok (.isub, 1) := by decide +kernel
theorem d_Mo_expression_293 : decode b_Mo_expression 293 = .ok (.istore_n 2, 1) := by decide +kernel
theorem d_Mo_expression_294 : decode b_Mo_expression 294 = .ok (.goto (-269), 3) := by decide +kernel
theorem d_Mo_action_0 : decode b_Mo_action 0 = .ok (.aload_n 0, 1) := by decide +kernel
theorem d_Mo_action_1 : decode b_Mo_action 1 = .ok (.invokevirtual 117, 3) := by decide +kernel
theorem d_Mo_action_4 : decode b_Mo_action 4 = .ok (.istore_n 2, 1) := by decide +kernel
theorem d_Mo_action_5 : decode b_Mo_action 5 = .ok (.aload_n 0, 1) := by decide +kernel
theorem d_Mo_action_6 : decode b_Mo_action 6 = .ok (.getfield 25, 3) := by decide +kernel
theorem d_Mo_action_9 : decode b_Mo_action 9 = .ok (.iload_n 1, 1) := by decide +kernel
theorem d_Mo_action_10 : decode b_Mo_action 10 = .ok (.iload_n 2, 1) := by decide +kernel
theorem d_Mo_action_11 : decode b_Mo_action 11 = .ok (.iastore, 1) := by decide +kernel
theorem d_Mo_action_12 : decode b_Mo_action 12 = .ok (.iload_n 2, 1) := by decide +kernel
theorem d_Mo_action_13 : decode b_Mo_action 13 = .ok (.bipush 117, 2) := by decide +kernel
theorem d_Mo_action_15 : decode b_Mo_action 15 = .ok (.bipush 122, 2) := by decide +kernel
theorem d_Mo_action_17 : decode b_Mo_action 17 = .ok (.invokestatic 103, 3) := by decide +kernel
theorem d_Mo_action_20 : decode b_Mo_action 20 = .ok (.ifCond .eq 42, 3) := by decide +kernel
theorem d_Mo_action_23 : decode b_Mo_action 23 = .ok (.aload_n 0, 1) := by decide +kernel
theorem d_Mo_action_24 : decode b_Mo_action 24 = .ok (.dup, 1) := by decide +kernel
theorem d_Mo_action_25 : decode b_Mo_action 25 = .ok (.getfield 114, 3) := by decide +kernel
theorem d_Mo_action_28 : decode b_Mo_action 28 = .ok (.iconst 1, 1) := by decide +kernel
theorem d_Mo_action_29 : decode b_Mo_action 29 = .ok (.iadd, 1) := by decide +kernel
theorem d_Mo_action_30 : decode b_Mo_action 30 = .ok (.putfield 114, 3) := by decide +kernel
theorem d_Mo_action_33 : decode b_Mo_action 33 = .ok (.aload_n 0, 1) := by decide +kernel
theorem d_Mo_action_34 : decode b_Mo_action 34 = .ok (.getfield 25, 3) := by decide +kernel
theorem d_Mo_action_37 : decode b_Mo_action 37 = .ok (.iload_n 1, 1) := by decide +kernel
theorem d_Mo_action_38 : decode b_Mo_action 38 = .ok (.bipush 61, 2) := by decide +kernel
theorem d_Mo_action_40 : decode b_Mo_action 40 = .ok (.iastore, 1) := by decide +kernel
theorem d_Mo_action_41 : decode b_Mo_action 41 = .ok (.aload_n 0, 1) := by decide +kernel
theorem d_Mo_action_42 : decode b_Mo_action 42 = .ok (.getfield 28, 3) := by decide +kernel
theorem d_Mo_action_45 : decode b_Mo_action 45 = .ok (.iload_n 1, 1) := by decide +kernel
theorem d_Mo_action_46 : decode b_Mo_action 46 = .ok (.iload_n 2, 1) := by decide +kernel
theorem d_Mo_action_47 : decode b_Mo_action 47 = .ok (.bipush 117, 2) := by decide +kernel
theorem d_Mo_action_49 : decode b_Mo_action 49 = .ok (.isub, 1) := by decide +kernel
theorem d_Mo_action_50 : decode b_Mo_action 50 = .ok (.iastore, 1) := by decide +kernel
theorem d_Mo_action_51 : decode b_Mo_action 51 = .ok (.aload_n 0, 1) := by decide +kernel
theorem d_Mo_action_52 : decode b_Mo_action 52 = .ok (.bipush 61, 2) := by decide +kernel
theorem d_Mo_action_54 : decode b_Mo_action 54 = .ok (.invokevirtual 145, 3) := by decide +kernel
theorem d_Mo_action_57 : decode b_Mo_action 57 = .ok (.ifCond .ne 128, 3) := by decide +kernel
theorem d_Mo_action_60 : decode b_Mo_action 60 = .ok (.iconst 0, 1) := by decide +kernel
theorem d_Mo_action_61 : decode b_Mo_action 61 = .ok (.ireturn, 1) := by decide +kernel
theorem d_Mo_action_62 : decode b_Mo_action 62 = .ok (.iload_n 2, 1) := by decide +kernel
theorem d_Mo_action_63 : decode b_Mo_action 63 = .ok (.bipush 64, 2) := by decide +kernel
theorem d_Mo_action_65 : decode b_Mo_action 65 = .ok (.if_icmp .ne 100, 3) := by decide +kernel
theorem d_Mo_action_68 : decode b_Mo_action 68 = .ok (.aload_n 0, 1) := by decide +kernel
theorem d_Mo_action_69 : decode b_Mo_action 69 = .ok (.dup, 1) := by decide +kernel
theorem d_Mo_action_70 : decode b_Mo_action 70 = .ok (.getfield 114, 3) := by decide +kernel
theorem d_Mo_action_73 : decode b_Mo_action 73 = .ok (.iconst 1, 1) := by decide +kernel
theorem d_Mo_action_74 : decode b_Mo_action 74 = .ok (.iadd, 1) := by decide +kernel
theorem d_Mo_action_75 : decode b_Mo_action 75 = .ok (.putfield 114, 3) := by decide +kernel
theorem d_Mo_action_78 : decode b_Mo_action 78 = .ok (.aload_n 0, 1) := by decide +kernel
theorem d_Mo_action_79 : decode b_Mo_action 79 = .ok (.invokevirtual 117, 3) := by decide +kernel
theorem d_Mo_action_82 : decode b_Mo_action 82 = .ok (.bipush 65, 2) := by decide +kernel
theorem d_Mo_action_84 : decode b_Mo_action 84 = .ok (.bipush 67, 2) := by decide +kernel
theorem d_Mo_action_86 : decode b_Mo_action 86 = .ok (.invokestatic 103, 3) := by decide +kernel
theorem d_Mo_action_89 : decode b_Mo_action 89 = .ok (.ifCond .ne 5, 3) := by decide +kernel
theorem d_Mo_action_92 : decode b_Mo_action 92 = .ok (.iconst 0, 1) := by decide +kernel
theorem d_Mo_action_93 : decode b_Mo_action 93 = .ok (.ireturn, 1) := by decide +kernel
theorem d_Mo_action_94 : decode b_Mo_action 94 = .ok (.aload_n 0, 1) := by decide +kernel
theorem d_Mo_action_95 : decode b_Mo_action 95 = .ok (.getfield 28, 3) := by decide +kernel
theorem d_Mo_action_98 : decode b_Mo_action 98 = .ok (.iload_n 1, 1) := by decide +kernel
theorem d_Mo_action_99 : decode b_Mo_action 99 = .ok (.aload_n 0, 1) := by decide +kernel
theorem d_Mo_action_100 : decode b_Mo_action 100 = .ok (.invokevirtual 117, 3) := by decide +kernel
theorem d_Mo_action_103 : decode b_Mo_action 103 = .ok (.bipush 65, 2) := by decide +kernel
theorem d_Mo_action_105 : decode b_Mo_action 105 = .ok (.isub, 1) := by decide +kernel
theorem d_Mo_action_106 : decode b_Mo_action 106 = .ok (.iastore, 1) := by decide +kernel
theorem d_Mo_action_107 : decode b_Mo_action 107 = .ok (.aload_n 0, 1) := by decide +kernel
theorem d_Mo_action_108 : decode b_Mo_action 108 = .ok (.dup, 1) := by decide +kernel
theorem d_Mo_action_109 : decode b_Mo_action 109 = .ok (.getfield 114, 3) := by decide +kernel
theorem d_Mo_action_112 : decode b_Mo_action 112 = .ok (.iconst 1, 1) := by decide +kernel
theorem d_Mo_action_113 : decode b_Mo_action 113 = .ok (.iadd, 1) := by decide +kernel
theorem d_Mo_action_114 : decode b_Mo_action 114 = .ok (.putfield 114, 3) := by decide +kernel
theorem d_Mo_action_117 : decode b_Mo_action 117 = .ok (.aload_n 0, 1) := by decide +kernel
theorem d_Mo_action_118 : decode b_Mo_action 118 = .ok (.bipush 91, 2) := by decide +kernel
theorem d_Mo_action_120 : decode b_Mo_action 120 = .ok (.invokevirtual 145, 3) := by decide +kernel
theorem d_Mo_action_123 : decode b_Mo_action 123 = .ok (.ifCond .ne 5, 3) := by decide +kernel
theorem d_Mo_action_126 : decode b_Mo_action 126 = .ok (.iconst 0, 1) := by decide +kernel
theorem d_Mo_action_127 : decode b_Mo_action 127 = .ok (.ireturn, 1) := by decide +kernel
theorem d_Mo_action_128 : decode b_Mo_action 128 = .ok (.aload_n 0, 1) := by decide +kernel
theorem d_Mo_action_129 : decode b_Mo_action 129 = .ok (.getfield 34, 3) := by decide +kernel
theorem d_Mo_action_132 : decode b_Mo_action 132 = .ok (.iload_n 1, 1) := by decide +kernel
theorem d_Mo_action_133 : decode b_Mo_action 133 = .ok (.aload_n 0, 1) := by decide +kernel
theorem d_Mo_action_134 : decode b_Mo_action 134 = .ok (.getfield 121, 3) := by decide +kernel
theorem d_Mo_action_137 : decode b_Mo_action 137 = .ok (.iastore, 1) := by decide +kernel
theorem d_Mo_action_138 : decode b_Mo_action 138 = .ok (.aload_n 0, 1) := by decide +kernel
theorem d_Mo_action_139 : decode b_Mo_action 139 = .ok (.invokevirtual 149, 3) := by decide +kernel
theorem d_Mo_action_142 : decode b_Mo_action 142 = .ok (.ifCond .eq 21, 3) := by decide +kernel
theorem d_Mo_action_145 : decode b_Mo_action 145 = .ok (.aload_n 0, 1) := by decide +kernel
theorem d_Mo_action_146 : decode b_Mo_action 146 = .ok (.bipush 93, 2) := by decide +kernel
theorem d_Mo_action_148 : decode b_Mo_action 148 = .ok (.invokevirtual 145, 3) := by decide +kernel
theorem d_Mo_action_151 : decode b_Mo_action 151 = .ok (.ifCond .eq 12, 3) := by decide +kernel
