theorem d_Mo_gather_215 : decode b_Mo_gather 215 = .ok (.iadd, 1) := by decide +kernel
theorem d_Mo_gather_216 : decode b_Mo_gather 216 = .ok (.dup2, 1) := by decide +kernel
theorem d_Mo_gather_217 : decode b_Mo_gather 217 = .ok (.iaload, 1) := by decide +kernel
theorem d_Mo_gather_218 : decode b_Mo_gather 218 = .ok (.iconst 1, 1) := by decide +kernel
theorem d_Mo_gather_219 : decode b_Mo_gather 219 = .ok (.iadd, 1) := by decide +kernel
theorem d_Mo_gather_220 : decode b_Mo_gather 220 = .ok (.iastore, 1) := by decide +kernel
theorem d_Mo_gather_221 : decode b_Mo_gather 221 = .ok (.return_, 1) := by decide +kernel
theorem d_Mo_put_0 : decode b_Mo_put 0 = .ok (.aload_n 0, 1) := by decide +kernel
theorem d_Mo_put_1 : decode b_Mo_put 1 = .ok (.getfield 202, 3) := by decide +kernel
theorem d_Mo_put_4 : decode b_Mo_put 4 = .ok (.bipush 6, 2) := by decide +kernel
theorem d_Mo_put_6 : decode b_Mo_put 6 = .ok (.if_icmp .ne 45, 3) := by decide +kernel
theorem d_Mo_put_9 : decode b_Mo_put 9 = .ok (.iconst 0, 1) := by decide +kernel
theorem d_Mo_put_10 : decode b_Mo_put 10 = .ok (.istore_n 3, 1) := by decide +kernel
theorem d_Mo_put_11 : decode b_Mo_put 11 = .ok (.iload_n 3, 1) := by decide +kernel
theorem d_Mo_put_12 : decode b_Mo_put 12 = .ok (.iconst 5, 1) := by decide +kernel
theorem d_Mo_put_13 : decode b_Mo_put 13 = .ok (.if_icmp .ge 23, 3) := by decide +kernel
theorem d_Mo_put_16 : decode b_Mo_put 16 = .ok (.aload_n 0, 1) := by decide +kernel
theorem d_Mo_put_17 : decode b_Mo_put 17 = .ok (.getfield 60, 3) := by decide +kernel
theorem d_Mo_put_20 : decode b_Mo_put 20 = .ok (.iload_n 3, 1) := by decide +kernel
theorem d_Mo_put_21 : decode b_Mo_put 21 = .ok (.aload_n 0, 1) := by decide +kernel
theorem d_Mo_put_22 : decode b_Mo_put 22 = .ok (.getfield 60, 3) := by decide +kernel
theorem d_Mo_put_25 : decode b_Mo_put 25 = .ok (.iload_n 3, 1) := by decide +kernel
theorem d_Mo_put_26 : decode b_Mo_put 26 = .ok (.iconst 1, 1) := by decide +kernel
theorem d_Mo_put_27 : decode b_Mo_put 27 = .ok (.iadd, 1) := by decide +kernel
theorem d_Mo_put_28 : decode b_Mo_put 28 = .ok (.daload, 1) := by decide +kernel
theorem d_Mo_put_29 : decode b_Mo_put 29 = .ok (.dastore, 1) := by decide +kernel
theorem d_Mo_put_30 : decode b_Mo_put 30 = .ok (.iinc 3 1, 3) := by decide +kernel
theorem d_Mo_put_33 : decode b_Mo_put 33 = .ok (.goto (-22), 3) := by decide +kernel
theorem d_Mo_put_36 : decode b_Mo_put 36 = .ok (.aload_n 0, 1) := by decide +kernel
theorem d_Mo_put_37 : decode b_Mo_put 37 = .ok (.iconst 5, 1) := by decide +kernel
theorem d_Mo_put_38 : decode b_Mo_put 38 = .ok (.putfield 202, 3) := by decide +kernel
theorem d_Mo_put_41 : decode b_Mo_put 41 = .ok (.aload_n 0, 1) := by decide +kernel
theorem d_Mo_put_42 : decode b_Mo_put 42 = .ok (.dup, 1) := by decide +kernel
theorem d_Mo_put_43 : decode b_Mo_put 43 = .ok (.getfield 205, 3) := by decide +kernel
theorem d_Mo_put_46 : decode b_Mo_put 46 = .ok (.iconst 1, 1) := by decide +kernel
theorem d_Mo_put_47 : decode b_Mo_put 47 = .ok (.iadd, 1) := by decide +kernel
theorem d_Mo_put_48 : decode b_Mo_put 48 = .ok (.putfield 205, 3) := by decide +kernel
theorem d_Mo_put_51 : decode b_Mo_put 51 = .ok (.aload_n 0, 1) := by decide +kernel
theorem d_Mo_put_52 : decode b_Mo_put 52 = .ok (.getfield 60, 3) := by decide +kernel
theorem d_Mo_put_55 : decode b_Mo_put 55 = .ok (.aload_n 0, 1) := by decide +kernel
theorem d_Mo_put_56 : decode b_Mo_put 56 = .ok (.getfield 202, 3) := by decide +kernel
theorem d_Mo_put_59 : decode b_Mo_put 59 = .ok (.dload_n 1, 1) := by decide +kernel
theorem d_Mo_put_60 : decode b_Mo_put 60 = .ok (.dastore, 1) := by decide +kernel
theorem d_Mo_put_61 : decode b_Mo_put 61 = .ok (.aload_n 0, 1) := by decide +kernel
theorem d_Mo_put_62 : decode b_Mo_put 62 = .ok (.dup, 1) := by decide +kernel
theorem d_Mo_put_63 : decode b_Mo_put 63 = .ok (.getfield 202, 3) := by decide +kernel
theorem d_Mo_put_66 : decode b_Mo_put 66 = .ok (.iconst 1, 1) := by decide +kernel
theorem d_Mo_put_67 : decode b_Mo_put 67 = .ok (.iadd, 1) := by decide +kernel
theorem d_Mo_put_68 : decode b_Mo_put 68 = .ok (.putfield 202, 3) := by decide +kernel
theorem d_Mo_put_71 : decode b_Mo_put 71 = .ok (.return_, 1) := by decide +kernel
theorem d_Mo_perform_0 : decode b_Mo_perform 0 = .ok (.aload_n 0, 1) := by decide +kernel
theorem d_Mo_perform_1 : decode b_Mo_perform 1 = .ok (.getfield 25, 3) := by decide +kernel
theorem d_Mo_perform_4 : decode b_Mo_perform 4 = .ok (.iload_n 1, 1) := by decide +kernel
theorem d_Mo_perform_5 : decode b_Mo_perform 5 = .ok (.iaload, 1) := by decide +kernel
theorem d_Mo_perform_6 : decode b_Mo_perform 6 = .ok (.bipush 64, 2) := by decide +kernel
theorem d_Mo_perform_8 : decode b_Mo_perform 8 = .ok (.if_icmp .ne 17, 3) := by decide +kernel
theorem d_Mo_perform_11 : decode b_Mo_perform 11 = .ok (.aload_n 0, 1) := by decide +kernel
theorem d_Mo_perform_12 : decode b_Mo_perform 12 = .ok (.aload_n 0, 1) := by decide +kernel
theorem d_Mo_perform_13 : decode b_Mo_perform 13 = .ok (.getfield 34, 3) := by decide +kernel
theorem d_Mo_perform_16 : decode b_Mo_perform 16 = .ok (.iload_n 1, 1) := by decide +kernel
theorem d_Mo_perform_17 : decode b_Mo_perform 17 = .ok (.iaload, 1) := by decide +kernel
theorem d_Mo_perform_18 : decode b_Mo_perform 18 = .ok (.invokevirtual 208, 3) := by decide +kernel
theorem d_Mo_perform_21 : decode b_Mo_perform 21 = .ok (.d2i, 1) := by decide +kernel
theorem d_Mo_perform_22 : decode b_Mo_perform 22 = .ok (.goto 4, 3) := by decide +kernel
theorem d_Mo_perform_25 : decode b_Mo_perform 25 = .ok (.iconst 0, 1) := by decide +kernel
theorem d_Mo_perform_26 : decode b_Mo_perform 26 = .ok (.istore_n 2, 1) := by decide +kernel
theorem d_Mo_perform_27 : decode b_Mo_perform 27 = .ok (.aload_n 0, 1) := by decide +kernel
theorem d_Mo_perform_28 : decode b_Mo_perform 28 = .ok (.getfield 173, 3) := by decide +kernel
theorem d_Mo_perform_31 : decode b_Mo_perform 31 = .ok (.ifCond .eq 7, 3) := by decide +kernel
theorem d_Mo_perform_34 : decode b_Mo_perform 34 = .ok (.dconst 0, 1) := by decide +kernel
theorem d_Mo_perform_35 : decode b_Mo_perform 35 = .ok (.goto 13, 3) := by decide +kernel
theorem d_Mo_perform_38 : decode b_Mo_perform 38 = .ok (.aload_n 0, 1) := by decide +kernel
theorem d_Mo_perform_39 : decode b_Mo_perform 39 = .ok (.aload_n 0, 1) := by decide +kernel
theorem d_Mo_perform_40 : decode b_Mo_perform 40 = .ok (.getfield 31, 3) := by decide +kernel
theorem d_Mo_perform_43 : decode b_Mo_perform 43 = .ok (.iload_n 1, 1) := by decide +kernel
theorem d_Mo_perform_44 : decode b_Mo_perform 44 = .ok (.iaload, 1) := by decide +kernel
theorem d_Mo_perform_45 : decode b_Mo_perform 45 = .ok (.invokevirtual 208, 3) := by decide +kernel
theorem d_Mo_perform_48 : decode b_Mo_perform 48 = .ok (.dstore_n 3, 1) := by decide +kernel
theorem d_Mo_perform_49 : decode b_Mo_perform 49 = .ok (.aload_n 0, 1) := by decide +kernel
theorem d_Mo_perform_50 : decode b_Mo_perform 50 = .ok (.getfield 173, 3) := by decide +kernel
theorem d_Mo_perform_53 : decode b_Mo_perform 53 = .ok (.ifCond .eq 5, 3) := by decide +kernel
theorem d_Mo_perform_56 : decode b_Mo_perform 56 = .ok (.iconst 0, 1) := by decide +kernel
theorem d_Mo_perform_57 : decode b_Mo_perform 57 = .ok (.ireturn, 1) := by decide +kernel
theorem d_Mo_perform_58 : decode b_Mo_perform 58 = .ok (.aload_n 0, 1) := by decide +kernel
theorem d_Mo_perform_59 : decode b_Mo_perform 59 = .ok (.getfield 25, 3) := by decide +kernel
theorem d_Mo_perform_62 : decode b_Mo_perform 62 = .ok (.iload_n 1, 1) := by decide +kernel
theorem d_Mo_perform_63 : decode b_Mo_perform 63 = .ok (.iaload, 1) := by decide +kernel
theorem d_Mo_perform_64 : decode b_Mo_perform 64 = .ok (.bipush 63, 2) := by decide +kernel
theorem d_Mo_perform_66 : decode b_Mo_perform 66 = .ok (.if_icmp .ne 15, 3) := by decide +kernel
theorem d_Mo_perform_69 : decode b_Mo_perform 69 = .ok (.dload_n 3, 1) := by decide +kernel
theorem d_Mo_perform_70 : decode b_Mo_perform 70 = .ok (.dconst 0, 1) := by decide +kernel
theorem d_Mo_perform_71 : decode b_Mo_perform 71 = .ok (.dcmp .l, 1) := by decide +kernel
theorem d_Mo_perform_72 : decode b_Mo_perform 72 = .ok (.ifCond .eq 7, 3) := by decide +kernel
theorem d_Mo_perform_75 : decode b_Mo_perform 75 = .ok (.iconst 1, 1) := by decide +kernel
theorem d_Mo_perform_76 : decode b_Mo_perform 76 = .ok (.goto 4, 3) := by decide +kernel
theorem d_Mo_perform_79 : decode b_Mo_perform 79 = .ok (.iconst 0, 1) := by decide +kernel
theorem d_Mo_perform_80 : decode b_Mo_perform 80 = .ok (.ireturn, 1) := by decide +kernel
theorem d_Mo_perform_81 : decode b_Mo_perform 81 = .ok (.aload_n 0, 1) := by decide +kernel
theorem d_Mo_perform_82 : decode b_Mo_perform 82 = .ok (.getfield 25, 3) := by decide +kernel
theorem d_Mo_perform_85 : decode b_Mo_perform 85 = .ok (.iload_n 1, 1) := by decide +kernel
theorem d_Mo_perform_86 : decode b_Mo_perform 86 = .ok (.iaload, 1) := by decide +kernel
theorem d_Mo_perform_87 : decode b_Mo_perform 87 = .ok (.bipush 33, 2) := by decide +kernel
theorem d_Mo_perform_89 : decode b_Mo_perform 89 = .ok (.if_icmp .ne 11, 3) := by decide +kernel
theorem d_Mo_perform_92 : decode b_Mo_perform 92 = .ok (.aload_n 0, 1) := by decide +kernel
theorem d_Mo_perform_93 : decode b_Mo_perform 93 = .ok (.dload_n 3, 1) := by decide +kernel
theorem d_Mo_perform_94 : decode b_Mo_perform 94 = .ok (.invokevirtual 211, 3) := by decide +kernel
theorem d_Mo_perform_97 : decode b_Mo_perform 97 = .ok (.goto 75, 3) := by decide +kernel
theorem d_Mo_perform_100 : decode b_Mo_perform 100 = .ok (.aload_n 0, 1) := by decide +kernel
theorem d_Mo_perform_101 : decode b_Mo_perform 101 = .ok (.getfield 25, 3) := by decide +kernel
theorem d_Mo_perform_104 : decode b_Mo_perform 104 = .ok (.iload_n 1, 1) := by decide +kernel
theorem d_Mo_perform_105 : decode b_Mo_perform 105 = .ok (.iaload, 1) := by decide +kernel
theorem d_Mo_perform_106 : decode b_Mo_perform 106 = .ok (.bipush 64, 2) := by decide +kernel
theorem d_Mo_perform_108 : decode b_Mo_perform 108 = .ok (.if_icmp .ne 18, 3) := by decide +kernel
theorem d_Mo_perform_111 : decode b_Mo_perform 111 = .ok (.aload_n 0, 1) := by decide +kernel
theorem d_Mo_perform_112 : decode b_Mo_perform 112 = .ok (.aload_n 0, 1) := by decide +kernel
theorem d_Mo_perform_113 : decode b_Mo_perform 113 = .ok (.getfield 28, 3) := by decide +kernel
theorem d_Mo_perform_116 : decode b_Mo_perform 116 = .ok (.iload_n 1, 1) := by decide +kernel
theorem d_Mo_perform_117 : decode b_Mo_perform 117 = .ok (.iaload, 1) := by decide +kernel
theorem d_Mo_perform_118 : decode b_Mo_perform 118 = .ok (.iload_n 2, 1) := by decide +kernel
theorem d_Mo_perform_119 : decode b_Mo_perform 119 = .ok (.dload_n 3, 1) := by decide +kernel
theorem d_Mo_perform_120 : decode b_Mo_perform 120 = .ok (.invokevirtual 215, 3) := by decide +kernel
theorem d_Mo_perform_123 : decode b_Mo_perform 123 = .ok (.goto 49, 3) := by decide +kernel
theorem d_Mo_perform_126 : decode b_Mo_perform 126 = .ok (.aload_n 0, 1) := by decide +kernel
theorem d_Mo_perform_127 : decode b_Mo_perform 127 = .ok (.getfield 28, 3) := by decide +kernel
theorem d_Mo_perform_130 : decode b_Mo_perform 130 = .ok (.iload_n 1, 1) := by decide +kernel
theorem d_Mo_perform_131 : decode b_Mo_perform 131 = .ok (.iaload, 1) := by decide +kernel
theorem d_Mo_perform_132 : decode b_Mo_perform 132 = .ok (.iconst 3, 1) := by decide +kernel
theorem d_Mo_perform_133 : decode b_Mo_perform 133 = .ok (.if_icmp .ge 18, 3) := by decide +kernel
theorem d_Mo_perform_136 : decode b_Mo_perform 136 = .ok (.aload_n 0, 1) := by decide +kernel
theorem d_Mo_perform_137 : decode b_Mo_perform 137 = .ok (.getfield 53, 3) := by decide +kernel
theorem d_Mo_perform_140 : decode b_Mo_perform 140 = .ok (.aload_n 0, 1) := by decide +kernel
theorem d_Mo_perform_141 : decode b_Mo_perform 141 = .ok (.getfield 28, 3) := by decide +kernel
theorem d_Mo_perform_144 : decode b_Mo_perform 144 = .ok (.iload_n 1, 1) := by decide +kernel
theorem d_Mo_perform_145 : decode b_Mo_perform 145 = .ok (.iaload, 1) := by decide +kernel
theorem d_Mo_perform_146 : decode b_Mo_perform 146 = .ok (.dload_n 3, 1) := by decide +kernel
theorem d_Mo_perform_147 : decode b_Mo_perform 147 = .ok (.dastore, 1) := by decide +kernel
theorem d_Mo_perform_148 : decode b_Mo_perform 148 = .ok (.goto 24, 3) := by decide +kernel
theorem d_Mo_perform_151 : decode b_Mo_perform 151 = .ok (.aload_n 0, 1) := by decide +kernel
theorem d_Mo_perform_152 : decode b_Mo_perform 152 = .ok (.getfield 57, 3) := by decide +kernel
theorem d_Mo_perform_155 : decode b_Mo_perform 155 = .ok (.aload_n 0, 1) := by decide +kernel
theorem d_Mo_perform_156 : decode b_Mo_perform 156 = .ok (.getfield 170, 3) := by decide +kernel
theorem d_Mo_perform_159 : decode b_Mo_perform 159 = .ok (.iconst 3, 1) := by decide +kernel
theorem d_Mo_perform_160 : decode b_Mo_perform 160 = .ok (.imul, 1) := by decide +kernel
theorem d_Mo_perform_161 : decode b_Mo_perform 161 = .ok (.aload_n 0, 1) := by decide +kernel
theorem d_Mo_perform_162 : decode b_Mo_perform 162 = .ok (.getfield 28, 3) := by decide +kernel
theorem d_Mo_perform_165 : decode b_Mo_perform 165 = .ok (.iload_n 1, 1) := by decide +kernel
theorem d_Mo_perform_166 : decode b_Mo_perform 166 = .ok (.iaload, 1) := by decide +kernel
theorem d_Mo_perform_167 : decode b_Mo_perform 167 = .ok (.iadd, 1) := by decide +kernel
theorem d_Mo_perform_168 : decode b_Mo_perform 168 = .ok (.iconst 3, 1) := by decide +kernel
theorem d_Mo_perform_169 : decode b_Mo_perform 169 = .ok (.isub, 1) := by decide +kernel
theorem d_Mo_perform_170 : decode b_Mo_perform 170 = .ok (.dload_n 3, 1) := by decide +kernel
theorem d_Mo_perform_171 : decode b_Mo_perform 171 = .ok (.dastore, 1) := by decide +kernel
theorem d_Mo_perform_172 : decode b_Mo_perform 172 = .ok (.aload_n 0, 1) := by decide +kernel
theorem d_Mo_perform_173 : decode b_Mo_perform 173 = .ok (.getfield 173, 3) := by decide +kernel
theorem d_Mo_perform_176 : decode b_Mo_perform 176 = .ok (.ifCond .ne 7, 3) := by decide +kernel
theorem d_Mo_perform_179 : decode b_Mo_perform 179 = .ok (.iconst 1, 1) := by decide +kernel
theorem d_Mo_perform_180 : decode b_Mo_perform 180 = .ok (.goto 4, 3) := by decide +kernel
theorem d_Mo_perform_183 : decode b_Mo_perform 183 = .ok (.iconst 0, 1) := by decide +kernel
theorem d_Mo_perform_184 : decode b_Mo_perform 184 = .ok (.ireturn, 1) := by decide +kernel
theorem d_Mo_doRule_0 : decode b_Mo_doRule 0 = .ok (.aload_n 0, 1) := by decide +kernel
theorem d_Mo_doRule_1 : decode b_Mo_doRule 1 = .ok (.iconst 0, 1) := by decide +kernel
theorem d_Mo_doRule_2 : decode b_Mo_doRule 2 = .ok (.putfield 173, 3) := by decide +kernel
theorem d_Mo_doRule_5 : decode b_Mo_doRule 5 = .ok (.aload_n 0, 1) := by decide +kernel
theorem d_Mo_doRule_6 : decode b_Mo_doRule 6 = .ok (.getfield 19, 3) := by decide +kernel
theorem d_Mo_doRule_9 : decode b_Mo_doRule 9 = .ok (.iload_n 1, 1) := by decide +kernel
theorem d_Mo_doRule_10 : decode b_Mo_doRule 10 = .ok (.iaload, 1) := by decide +kernel
theorem d_Mo_doRule_11 : decode b_Mo_doRule 11 = .ok (.ifCond .lt 18, 3) := by decide +kernel
theorem d_Mo_doRule_14 : decode b_Mo_doRule 14 = .ok (.aload_n 0, 1) := by decide +kernel
theorem d_Mo_doRule_15 : decode b_Mo_doRule 15 = .ok (.aload_n 0, 1) := by decide +kernel
theorem d_Mo_doRule_16 : decode b_Mo_doRule 16 = .ok (.getfield 19, 3) := by decide +kernel
theorem d_Mo_doRule_19 : decode b_Mo_doRule 19 = .ok (.iload_n 1, 1) := by decide +kernel
theorem d_Mo_doRule_20 : decode b_Mo_doRule 20 = .ok (.iaload, 1) := by decide +kernel
theorem d_Mo_doRule_21 : decode b_Mo_doRule 21 = .ok (.invokevirtual 208, 3) := by decide +kernel
theorem d_Mo_doRule_24 : decode b_Mo_doRule 24 = .ok (.dconst 0, 1) := by decide +kernel
theorem d_Mo_doRule_25 : decode b_Mo_doRule 25 = .ok (.dcmp .l, 1) := by decide +kernel
theorem d_Mo_doRule_26 : decode b_Mo_doRule 26 = .ok (.ifCond .eq 7, 3) := by decide +kernel
theorem d_Mo_doRule_29 : decode b_Mo_doRule 29 = .ok (.iconst 1, 1) := by decide +kernel
theorem d_Mo_doRule_30 : decode b_Mo_doRule 30 = .ok (.goto 4, 3) := by decide +kernel
theorem d_Mo_doRule_33 : decode b_Mo_doRule 33 = .ok (.iconst 0, 1) := by decide +kernel
theorem d_Mo_doRule_34 : decode b_Mo_doRule 34 = .ok (.istore_n 2, 1) := by decide +kernel
theorem d_Mo_doRule_35 : decode b_Mo_doRule 35 = .ok (.aload_n 0, 1) := by decide +kernel
theorem d_Mo_doRule_36 : decode b_Mo_doRule 36 = .ok (.getfield 173, 3) := by decide +kernel
theorem d_Mo_doRule_39 : decode b_Mo_doRule 39 = .ok (.ifCond .ne 50, 3) := by decide +kernel
theorem d_Mo_doRule_42 : decode b_Mo_doRule 42 = .ok (.iload_n 2, 1) := by decide +kernel
theorem d_Mo_doRule_43 : decode b_Mo_doRule 43 = .ok (.ifCond .eq 46, 3) := by decide +kernel
theorem d_Mo_doRule_46 : decode b_Mo_doRule 46 = .ok (.aload_n 0, 1) := by decide +kernel
theorem d_Mo_doRule_47 : decode b_Mo_doRule 47 = .ok (.getfield 40, 3) := by decide +kernel
theorem d_Mo_doRule_50 : decode b_Mo_doRule 50 = .ok (.iload_n 1, 1) := by decide +kernel
theorem d_Mo_doRule_51 : decode b_Mo_doRule 51 = .ok (.dup2, 1) := by decide +kernel
theorem d_Mo_doRule_52 : decode b_Mo_doRule 52 = .ok (.iaload, 1) := by decide +kernel
theorem d_Mo_doRule_53 : decode b_Mo_doRule 53 = .ok (.iconst 1, 1) := by decide +kernel
theorem d_Mo_doRule_54 : decode b_Mo_doRule 54 = .ok (.iadd, 1) := by decide +kernel
theorem d_Mo_doRule_55 : decode b_Mo_doRule 55 = .ok (.iastore, 1) := by decide +kernel
theorem d_Mo_doRule_56 : decode b_Mo_doRule 56 = .ok (.iconst 0, 1) := by decide +kernel
theorem d_Mo_doRule_57 : decode b_Mo_doRule 57 = .ok (.istore_n 3, 1) := by decide +kernel
theorem d_Mo_doRule_58 : decode b_Mo_doRule 58 = .ok (.iload_n 3, 1) := by decide +kernel
theorem d_Mo_doRule_59 : decode b_Mo_doRule 59 = .ok (.aload_n 0, 1) := by decide +kernel
theorem d_Mo_doRule_60 : decode b_Mo_doRule 60 = .ok (.getfield 22, 3) := by decide +kernel
theorem d_Mo_doRule_63 : decode b_Mo_doRule 63 = .ok (.iload_n 1, 1) := by decide +kernel
theorem d_Mo_doRule_64 : decode b_Mo_doRule 64 = .ok (.iaload, 1) := by decide +kernel
theorem d_Mo_doRule_65 : decode b_Mo_doRule 65 = .ok (.if_icmp .ge 24, 3) := by decide +kernel
theorem d_Mo_doRule_68 : decode b_Mo_doRule 68 = .ok (.iload_n 2, 1) := by decide +kernel
theorem d_Mo_doRule_69 : decode b_Mo_doRule 69 = .ok (.ifCond .eq 20, 3) := by decide +kernel
theorem d_Mo_doRule_72 : decode b_Mo_doRule 72 = .ok (.aload_n 0, 1) := by decide +kernel
theorem d_Mo_doRule_73 : decode b_Mo_doRule 73 = .ok (.iload_n 1, 1) := by decide +kernel
theorem d_Mo_doRule_74 : decode b_Mo_doRule 74 = .ok (.bipush 48, 2) := by decide +kernel
theorem d_Mo_doRule_76 : decode b_Mo_doRule 76 = .ok (.imul, 1) := by decide +kernel
theorem d_Mo_doRule_77 : decode b_Mo_doRule 77 = .ok (.iload_n 3, 1) := by decide +kernel
theorem d_Mo_doRule_78 : decode b_Mo_doRule 78 = .ok (.iadd, 1) := by decide +kernel
theorem d_Mo_doRule_79 : decode b_Mo_doRule 79 = .ok (.invokevirtual 219, 3) := by decide +kernel
theorem d_Mo_doRule_82 : decode b_Mo_doRule 82 = .ok (.istore_n 2, 1) := by decide +kernel
theorem d_Mo_doRule_83 : decode b_Mo_doRule 83 = .ok (.iinc 3 1, 3) := by decide +kernel
theorem d_Mo_doRule_86 : decode b_Mo_doRule 86 = .ok (.goto (-28), 3) := by decide +kernel
theorem d_Mo_doRule_89 : decode b_Mo_doRule 89 = .ok (.aload_n 0, 1) := by decide +kernel
theorem d_Mo_doRule_90 : decode b_Mo_doRule 90 = .ok (.getfield 173, 3) := by decide +kernel
theorem d_Mo_doRule_93 : decode b_Mo_doRule 93 = .ok (.ifCond .eq 13, 3) := by decide +kernel
theorem d_Mo_doRule_96 : decode b_Mo_doRule 96 = .ok (.aload_n 0, 1) := by decide +kernel
theorem d_Mo_doRule_97 : decode b_Mo_doRule 97 = .ok (.getfield 37, 3) := by decide +kernel
theorem d_Mo_doRule_100 : decode b_Mo_doRule 100 = .ok (.iload_n 1, 1) := by decide +kernel
theorem d_Mo_doRule_101 : decode b_Mo_doRule 101 = .ok (.dup2, 1) := by decide +kernel
theorem d_Mo_doRule_102 : decode b_Mo_doRule 102 = .ok (.iaload, 1) := by decide +kernel
theorem d_Mo_doRule_103 : decode b_Mo_doRule 103 = .ok (.iconst 1, 1) := by decide +kernel
theorem d_Mo_doRule_104 : decode b_Mo_doRule 104 = .ok (.iadd, 1) := by decide +kernel
theorem d_Mo_doRule_105 : decode b_Mo_doRule 105 = .ok (.iastore, 1) := by decide +kernel
theorem d_Mo_doRule_106 : decode b_Mo_doRule 106 = .ok (.return_, 1) := by decide +kernel
theorem d_Mo_fire_0 : decode b_Mo_fire 0 = .ok (.aload_n 0, 1) := by decide +kernel
theorem d_Mo_fire_1 : decode b_Mo_fire 1 = .ok (.iload_n 1, 1) := by decide +kernel
theorem d_Mo_fire_2 : decode b_Mo_fire 2 = .ok (.iconst 0, 1) := by decide +kernel
theorem d_Mo_fire_3 : decode b_Mo_fire 3 = .ok (.bipush 7, 2) := by decide +kernel
theorem d_Mo_fire_5 : decode b_Mo_fire 5 = .ok (.invokestatic 103, 3) := by decide +kernel
theorem d_Mo_fire_8 : decode b_Mo_fire 8 = .ok (.ifCond .eq 40, 3) := by decide +kernel
theorem d_Mo_fire_11 : decode b_Mo_fire 11 = .ok (.iload_n 3, 1) := by decide +kernel
theorem d_Mo_fire_12 : decode b_Mo_fire 12 = .ok (.iconst 0, 1) := by decide +kernel
theorem d_Mo_fire_13 : decode b_Mo_fire 13 = .ok (.iconst 3, 1) := by decide +kernel
theorem d_Mo_fire_14 : decode b_Mo_fire 14 = .ok (.invokestatic 103, 3) := by decide +kernel
theorem d_Mo_fire_17 : decode b_Mo_fire 17 = .ok (.ifCond .eq 31, 3) := by decide +kernel
theorem d_Mo_fire_20 : decode b_Mo_fire 20 = .ok (.dload 4, 2) := by decide +kernel
theorem d_Mo_fire_22 : decode b_Mo_fire 22 = .ok (.invokestatic 222, 3) := by decide +kernel
theorem d_Mo_fire_25 : decode b_Mo_fire 25 = .ok (.ifCond .eq 23, 3) := by decide +kernel
theorem d_Mo_fire_28 : decode b_Mo_fire 28 = .ok (.dload 6, 2) := by decide +kernel
theorem d_Mo_fire_30 : decode b_Mo_fire 30 = .ok (.invokestatic 222, 3) := by decide +kernel
theorem d_Mo_fire_33 : decode b_Mo_fire 33 = .ok (.ifCond .eq 15, 3) := by decide +kernel
theorem d_Mo_fire_36 : decode b_Mo_fire 36 = .ok (.dload 8, 2) := by decide +kernel
theorem d_Mo_fire_38 : decode b_Mo_fire 38 = .ok (.invokestatic 222, 3) := by decide +kernel
theorem d_Mo_fire_41 : decode b_Mo_fire 41 = .ok (.ifCond .eq 7, 3) := by decide +kernel
theorem d_Mo_fire_44 : decode b_Mo_fire 44 = .ok (.iconst 1, 1) := by decide +kernel
theorem d_Mo_fire_45 : decode b_Mo_fire 45 = .ok (.goto 4, 3) := by decide +kernel
theorem d_Mo_fire_48 : decode b_Mo_fire 48 = .ok (.iconst 0, 1) := by decide +kernel
theorem d_Mo_fire_49 : decode b_Mo_fire 49 = .ok (.invokevirtual 107, 3) := by decide +kernel
theorem d_Mo_fire_52 : decode b_Mo_fire 52 = .ok (.ifCond .eq 5, 3) := by decide +kernel
theorem d_Mo_fire_55 : decode b_Mo_fire 55 = .ok (.iconst 0, 1) := by decide +kernel
theorem d_Mo_fire_56 : decode b_Mo_fire 56 = .ok (.ireturn, 1) := by decide +kernel
theorem d_Mo_fire_57 : decode b_Mo_fire 57 = .ok (.aload_n 0, 1) := by decide +kernel
theorem d_Mo_fire_58 : decode b_Mo_fire 58 = .ok (.getfield 66, 3) := by decide +kernel
theorem d_Mo_fire_61 : decode b_Mo_fire 61 = .ok (.iconst 0, 1) := by decide +kernel
theorem d_Mo_fire_62 : decode b_Mo_fire 62 = .ok (.dload 4, 2) := by decide +kernel
theorem d_Mo_fire_64 : decode b_Mo_fire 64 = .ok (.dastore, 1) := by decide +kernel
theorem d_Mo_fire_65 : decode b_Mo_fire 65 = .ok (.aload_n 0, 1) := by decide +kernel
theorem d_Mo_fire_66 : decode b_Mo_fire 66 = .ok (.getfield 66, 3) := by decide +kernel
theorem d_Mo_fire_69 : decode b_Mo_fire 69 = .ok (.iconst 1, 1) := by decide +kernel
theorem d_Mo_fire_70 : decode b_Mo_fire 70 = .ok (.dload 6, 2) := by decide +kernel
theorem d_Mo_fire_72 : decode b_Mo_fire 72 = .ok (.dastore, 1) := by decide +kernel
theorem d_Mo_fire_73 : decode b_Mo_fire 73 = .ok (.aload_n 0, 1) := by decide +kernel
theorem d_Mo_fire_74 : decode b_Mo_fire 74 = .ok (.getfield 66, 3) := by decide +kernel
theorem d_Mo_fire_77 : decode b_Mo_fire 77 = .ok (.iconst 2, 1) := by decide +kernel
theorem d_Mo_fire_78 : decode b_Mo_fire 78 = .ok (.dload 8, 2) := by decide +kernel
theorem d_Mo_fire_80 : decode b_Mo_fire 80 = .ok (.dastore, 1) := by decide +kernel
theorem d_Mo_fire_81 : decode b_Mo_fire 81 = .ok (.aload_n 0, 1) := by decide +kernel
theorem d_Mo_fire_82 : decode b_Mo_fire 82 = .ok (.iload_n 3, 1) := by decide +kernel
theorem d_Mo_fire_83 : decode b_Mo_fire 83 = .ok (.putfield 170, 3) := by decide +kernel
theorem d_Mo_fire_86 : decode b_Mo_fire 86 = .ok (.iconst 0, 1) := by decide +kernel
theorem d_Mo_fire_87 : decode b_Mo_fire 87 = .ok (.istore 10, 2) := by decide +kernel
theorem d_Mo_fire_89 : decode b_Mo_fire 89 = .ok (.iconst 0, 1) := by decide +kernel
theorem d_Mo_fire_90 : decode b_Mo_fire 90 = .ok (.istore 11, 2) := by decide +kernel
theorem d_Mo_fire_92 : decode b_Mo_fire 92 = .ok (.iconst 0, 1) := by decide +kernel
theorem d_Mo_fire_93 : decode b_Mo_fire 93 = .ok (.istore 12, 2) := by decide +kernel
theorem d_Mo_fire_95 : decode b_Mo_fire 95 = .ok (.iload 12, 2) := by decide +kernel
theorem d_Mo_fire_97 : decode b_Mo_fire 97 = .ok (.bipush 6, 2) := by decide +kernel
theorem d_Mo_fire_99 : decode b_Mo_fire 99 = .ok (.if_icmp .ge 87, 3) := by decide +kernel
theorem d_Mo_fire_102 : decode b_Mo_fire 102 = .ok (.aload_n 0, 1) := by decide +kernel
theorem d_Mo_fire_103 : decode b_Mo_fire 103 = .ok (.getfield 43, 3) := by decide +kernel
theorem d_Mo_fire_106 : decode b_Mo_fire 106 = .ok (.iload 12, 2) := by decide +kernel
theorem d_Mo_fire_108 : decode b_Mo_fire 108 = .ok (.baload, 1) := by decide +kernel
theorem d_Mo_fire_109 : decode b_Mo_fire 109 = .ok (.ifCond .eq 71, 3) := by decide +kernel
theorem d_Mo_fire_112 : decode b_Mo_fire 112 = .ok (.aload_n 0, 1) := by decide +kernel
theorem d_Mo_fire_113 : decode b_Mo_fire 113 = .ok (.getfield 47, 3) := by decide +kernel
theorem d_Mo_fire_116 : decode b_Mo_fire 116 = .ok (.iload 12, 2) := by decide +kernel
theorem d_Mo_fire_118 : decode b_Mo_fire 118 = .ok (.baload, 1) := by decide +kernel
theorem d_Mo_fire_119 : decode b_Mo_fire 119 = .ok (.ifCond .eq 61, 3) := by decide +kernel
theorem d_Mo_fire_122 : decode b_Mo_fire 122 = .ok (.aload_n 0, 1) := by decide +kernel
theorem d_Mo_fire_123 : decode b_Mo_fire 123 = .ok (.getfield 16, 3) := by decide +kernel
theorem d_Mo_fire_126 : decode b_Mo_fire 126 = .ok (.iload 12, 2) := by decide +kernel
theorem d_Mo_fire_128 : decode b_Mo_fire 128 = .ok (.iaload, 1) := by decide +kernel
theorem d_Mo_fire_129 : decode b_Mo_fire 129 = .ok (.iload_n 1, 1) := by decide +kernel
theorem d_Mo_fire_130 : decode b_Mo_fire 130 = .ok (.iload_n 2, 1) := by decide +kernel
theorem d_Mo_fire_131 : decode b_Mo_fire 131 = .ok (.ifCond .eq 8, 3) := by decide +kernel
theorem d_Mo_fire_134 : decode b_Mo_fire 134 = .ok (.bipush 8, 2) := by decide +kernel
theorem d_Mo_fire_136 : decode b_Mo_fire 136 = .ok (.goto 4, 3) := by decide +kernel
theorem d_Mo_fire_139 : decode b_Mo_fire 139 = .ok (.iconst 0, 1) := by decide +kernel
theorem d_Mo_fire_140 : decode b_Mo_fire 140 = .ok (.iadd, 1) := by decide +kernel
theorem d_Mo_fire_141 : decode b_Mo_fire 141 = .ok (.if_icmp .eq 6, 3) := by decide +kernel
theorem d_Mo_fire_144 : decode b_Mo_fire 144 = .ok (.goto 36, 3) := by decide +kernel
theorem d_Mo_fire_147 : decode b_Mo_fire 147 = .ok (.aload_n 0, 1) := by decide +kernel
theorem d_Mo_fire_148 : decode b_Mo_fire 148 = .ok (.getfield 40, 3) := by decide +kernel
theorem d_Mo_fire_151 : decode b_Mo_fire 151 = .ok (.iload 12, 2) := by decide +kernel
theorem d_Mo_fire_153 : decode b_Mo_fire 153 = .ok (.iaload, 1) := by decide +kernel
theorem d_Mo_fire_154 : decode b_Mo_fire 154 = .ok (.istore 13, 2) := by decide +kernel
theorem d_Mo_fire_156 : decode b_Mo_fire 156 = .ok (.iconst 1, 1) := by decide +kernel
theorem d_Mo_fire_157 : decode b_Mo_fire 157 = .ok (.istore 11, 2) := by decide +kernel
theorem d_Mo_fire_159 : decode b_Mo_fire 159 = .ok (.aload_n 0, 1) := by decide +kernel
theorem d_Mo_fire_160 : decode b_Mo_fire 160 = .ok (.iload 12, 2) := by decide +kernel
theorem d_Mo_fire_162 : decode b_Mo_fire 162 = .ok (.invokevirtual 226, 3) := by decide +kernel
theorem d_Mo_fire_165 : decode b_Mo_fire 165 = .ok (.iload 10, 2) := by decide +kernel
theorem d_Mo_fire_167 : decode b_Mo_fire 167 = .ok (.aload_n 0, 1) := by decide +kernel
theorem d_Mo_fire_168 : decode b_Mo_fire 168 = .ok (.getfield 40, 3) := by decide +kernel
theorem d_Mo_fire_171 : decode b_Mo_fire 171 = .ok (.iload 12, 2) := by decide +kernel
theorem d_Mo_fire_173 : decode b_Mo_fire 173 = .ok (.iaload, 1) := by decide +kernel
theorem d_Mo_fire_174 : decode b_Mo_fire 174 = .ok (.iload 13, 2) := by decide +kernel
theorem d_Mo_fire_176 : decode b_Mo_fire 176 = .ok (.isub, 1) := by decide +kernel
theorem d_Mo_fire_177 : decode b_Mo_fire 177 = .ok (.iadd, 1) := by decide +kernel
theorem d_Mo_fire_178 : decode b_Mo_fire 178 = .ok (.istore 10, 2) := by decide +kernel
theorem d_Mo_fire_180 : decode b_Mo_fire 180 = .ok (.iinc 12 1, 3) := by decide +kernel
theorem d_Mo_fire_183 : decode b_Mo_fire 183 = .ok (.goto (-88), 3) := by decide +kernel
theorem d_Mo_fire_186 : decode b_Mo_fire 186 = .ok (.iload 11, 2) := by decide +kernel
theorem d_Mo_fire_188 : decode b_Mo_fire 188 = .ok (.ifCond .eq 13, 3) := by decide +kernel
theorem d_Mo_fire_191 : decode b_Mo_fire 191 = .ok (.aload_n 0, 1) := by decide +kernel
theorem d_Mo_fire_192 : decode b_Mo_fire 192 = .ok (.dup, 1) := by decide +kernel
theorem d_Mo_fire_193 : decode b_Mo_fire 193 = .ok (.getfield 230, 3) := by decide +kernel
theorem d_Mo_fire_196 : decode b_Mo_fire 196 = .ok (.iconst 1, 1) := by decide +kernel
theorem d_Mo_fire_197 : decode b_Mo_fire 197 = .ok (.iadd, 1) := by decide +kernel
theorem d_Mo_fire_198 : decode b_Mo_fire 198 = .ok (.putfield 230, 3) := by decide +kernel
theorem d_Mo_fire_201 : decode b_Mo_fire 201 = .ok (.iload 10, 2) := by decide +kernel
theorem d_Mo_fire_203 : decode b_Mo_fire 203 = .ok (.ireturn, 1) := by decide +kernel
theorem d_Mo_fits_0 : decode b_Mo_fits 0 = .ok (.dload_n 0, 1) := by decide +kernel
theorem d_Mo_fits_1 : decode b_Mo_fits 1 = .ok (.ldc2_w 233, 3) := by decide +kernel
theorem d_Mo_fits_4 : decode b_Mo_fits 4 = .ok (.dcmp .l, 1) := by decide +kernel
theorem d_Mo_fits_5 : decode b_Mo_fits 5 = .ok (.ifCond .lt 15, 3) := by decide +kernel
theorem d_Mo_fits_8 : decode b_Mo_fits 8 = .ok (.dload_n 0, 1) := by decide +kernel
theorem d_Mo_fits_9 : decode b_Mo_fits 9 = .ok (.ldc2_w 235, 3) := by decide +kernel
theorem d_Mo_fits_12 : decode b_Mo_fits 12 = .ok (.dcmp .g, 1) := by decide +kernel
theorem d_Mo_fits_13 : decode b_Mo_fits 13 = .ok (.ifCond .gt 7, 3) := by decide +kernel
theorem d_Mo_fits_16 : decode b_Mo_fits 16 = .ok (.iconst 1, 1) := by decide +kernel
theorem d_Mo_fits_17 : decode b_Mo_fits 17 = .ok (.goto 4, 3) := by decide +kernel
theorem d_Mo_fits_20 : decode b_Mo_fits 20 = .ok (.iconst 0, 1) := by decide +kernel
theorem d_Mo_fits_21 : decode b_Mo_fits 21 = .ok (.ireturn, 1) := by decide +kernel
theorem d_Mo_turn_0 : decode b_Mo_turn 0 = .ok (.aload_n 0, 1) := by decide +kernel
theorem d_Mo_turn_1 : decode b_Mo_turn 1 = .ok (.iload_n 1, 1) := by decide +kernel
theorem d_Mo_turn_2 : decode b_Mo_turn 2 = .ok (.iconst 0, 1) := by decide +kernel
theorem d_Mo_turn_3 : decode b_Mo_turn 3 = .ok (.iconst 5, 1) := by decide +kernel
theorem d_Mo_turn_4 : decode b_Mo_turn 4 = .ok (.invokestatic 103, 3) := by decide +kernel
theorem d_Mo_turn_7 : decode b_Mo_turn 7 = .ok (.invokevirtual 107, 3) := by decide +kernel
theorem d_Mo_turn_10 : decode b_Mo_turn 10 = .ok (.ifCond .eq 5, 3) := by decide +kernel
theorem d_Mo_turn_13 : decode b_Mo_turn 13 = .ok (.iconst 0, 1) := by decide +kernel
theorem d_Mo_turn_14 : decode b_Mo_turn 14 = .ok (.ireturn, 1) := by decide +kernel
theorem d_Mo_turn_15 : decode b_Mo_turn 15 = .ok (.aload_n 0, 1) := by decide +kernel
theorem d_Mo_turn_16 : decode b_Mo_turn 16 = .ok (.getfield 43, 3) := by decide +kernel
theorem d_Mo_turn_19 : decode b_Mo_turn 19 = .ok (.iload_n 1, 1) := by decide +kernel
theorem d_Mo_turn_20 : decode b_Mo_turn 20 = .ok (.baload, 1) := by decide +kernel
theorem d_Mo_turn_21 : decode b_Mo_turn 21 = .ok (.ifCond .ne 10, 3) := by decide +kernel
theorem d_Mo_turn_24 : decode b_Mo_turn 24 = .ok (.aload_n 0, 1) := by decide +kernel
theorem d_Mo_turn_25 : decode b_Mo_turn 25 = .ok (.iconst 2, 1) := by decide +kernel
theorem d_Mo_turn_26 : decode b_Mo_turn 26 = .ok (.putfield 100, 3) := by decide +kernel
theorem d_Mo_turn_29 : decode b_Mo_turn 29 = .ok (.iconst 0, 1) := by decide +kernel
theorem d_Mo_turn_30 : decode b_Mo_turn 30 = .ok (.ireturn, 1) := by decide +kernel
theorem d_Mo_turn_31 : decode b_Mo_turn 31 = .ok (.aload_n 0, 1) := by decide +kernel
theorem d_Mo_turn_32 : decode b_Mo_turn 32 = .ok (.getfield 47, 3) := by decide +kernel
theorem d_Mo_turn_35 : decode b_Mo_turn 35 = .ok (.iload_n 1, 1) := by decide +kernel
theorem d_Mo_turn_36 : decode b_Mo_turn 36 = .ok (.iload_n 2, 1) := by decide +kernel
theorem d_Mo_turn_37 : decode b_Mo_turn 37 = .ok (.bastore, 1) := by decide +kernel
theorem d_Mo_turn_38 : decode b_Mo_turn 38 = .ok (.aload_n 0, 1) := by decide +kernel
theorem d_Mo_turn_39 : decode b_Mo_turn 39 = .ok (.invokevirtual 237, 3) := by decide +kernel
theorem d_Mo_turn_42 : decode b_Mo_turn 42 = .ok (.ireturn, 1) := by decide +kernel
theorem d_Mo_rulesOn_0 : decode b_Mo_rulesOn 0 = .ok (.iconst 0, 1) := by decide +kernel
theorem d_Mo_rulesOn_1 : decode b_Mo_rulesOn 1 = .ok (.istore_n 1, 1) := by decide +kernel
theorem d_Mo_rulesOn_2 : decode b_Mo_rulesOn 2 = .ok (.iconst 0, 1) := by decide +kernel
theorem d_Mo_rulesOn_3 : decode b_Mo_rulesOn 3 = .ok (.istore_n 2, 1) := by decide +kernel
theorem d_Mo_rulesOn_4 : decode b_Mo_rulesOn 4 = .ok (.iload_n 2, 1) := by decide +kernel
theorem d_Mo_rulesOn_5 : decode b_Mo_rulesOn 5 = .ok (.bipush 6, 2) := by decide +kernel
theorem d_Mo_rulesOn_7 : decode b_Mo_rulesOn 7 = .ok (.if_icmp .ge 30, 3) := by decide +kernel
theorem d_Mo_rulesOn_10 : decode b_Mo_rulesOn 10 = .ok (.aload_n 0, 1) := by decide +kernel
theorem d_Mo_rulesOn_11 : decode b_Mo_rulesOn 11 = .ok (.getfield 43, 3) := by decide +kernel
theorem d_Mo_rulesOn_14 : decode b_Mo_rulesOn 14 = .ok (.iload_n 2, 1) := by decide +kernel
theorem d_Mo_rulesOn_15 : decode b_Mo_rulesOn 15 = .ok (.baload, 1) := by decide +kernel
theorem d_Mo_rulesOn_16 : decode b_Mo_rulesOn 16 = .ok (.ifCond .eq 15, 3) := by decide +kernel
theorem d_Mo_rulesOn_19 : decode b_Mo_rulesOn 19 = .ok (.aload_n 0, 1) := by decide +kernel
theorem d_Mo_rulesOn_20 : decode b_Mo_rulesOn 20 = .ok (.getfield 47, 3) := by decide +kernel
theorem d_Mo_rulesOn_23 : decode b_Mo_rulesOn 23 = .ok (.iload_n 2, 1) := by decide +kernel
theorem d_Mo_rulesOn_24 : decode b_Mo_rulesOn 24 = .ok (.baload, 1) := by decide +kernel
theorem d_Mo_rulesOn_25 : decode b_Mo_rulesOn 25 = .ok (.ifCond .eq 6, 3) := by decide +kernel
theorem d_Mo_rulesOn_28 : decode b_Mo_rulesOn 28 = .ok (.iinc 1 1, 3) := by decide +kernel
theorem d_Mo_rulesOn_31 : decode b_Mo_rulesOn 31 = .ok (.iinc 2 1, 3) := by decide +kernel
theorem d_Mo_rulesOn_34 : decode b_Mo_rulesOn 34 = .ok (.goto (-30), 3) := by decide +kernel
theorem d_Mo_rulesOn_37 : decode b_Mo_rulesOn 37 = .ok (.iload_n 1, 1) := by decide +kernel
theorem d_Mo_rulesOn_38 : decode b_Mo_rulesOn 38 = .ok (.ireturn, 1) := by decide +kernel
theorem d_Mo_tick_0 : decode b_Mo_tick 0 = .ok (.aload_n 0, 1) := by decide +kernel
theorem d_Mo_tick_1 : decode b_Mo_tick 1 = .ok (.iload_n 1, 1) := by decide +kernel
theorem d_Mo_tick_2 : decode b_Mo_tick 2 = .ok (.iconst 1, 1) := by decide +kernel
theorem d_Mo_tick_3 : decode b_Mo_tick 3 = .ok (.bipush 100, 2) := by decide +kernel
theorem d_Mo_tick_5 : decode b_Mo_tick 5 = .ok (.invokestatic 103, 3) := by decide +kernel
theorem d_Mo_tick_8 : decode b_Mo_tick 8 = .ok (.invokevirtual 107, 3) := by decide +kernel
theorem d_Mo_tick_11 : decode b_Mo_tick 11 = .ok (.ifCond .eq 5, 3) := by decide +kernel
theorem d_Mo_tick_14 : decode b_Mo_tick 14 = .ok (.iconst 0, 1) := by decide +kernel
theorem d_Mo_tick_15 : decode b_Mo_tick 15 = .ok (.ireturn, 1) := by decide +kernel
theorem d_Mo_tick_16 : decode b_Mo_tick 16 = .ok (.aload_n 0, 1) := by decide +kernel
theorem d_Mo_tick_17 : decode b_Mo_tick 17 = .ok (.dup, 1) := by decide +kernel
theorem d_Mo_tick_18 : decode b_Mo_tick 18 = .ok (.getfield 167, 3) := by decide +kernel
theorem d_Mo_tick_21 : decode b_Mo_tick 21 = .ok (.iload_n 1, 1) := by decide +kernel
theorem d_Mo_tick_22 : decode b_Mo_tick 22 = .ok (.iadd, 1) := by decide +kernel
theorem d_Mo_tick_23 : decode b_Mo_tick 23 = .ok (.putfield 167, 3) := by decide +kernel
theorem d_Mo_tick_26 : decode b_Mo_tick 26 = .ok (.aload_n 0, 1) := by decide +kernel
theorem d_Mo_tick_27 : decode b_Mo_tick 27 = .ok (.getfield 167, 3) := by decide +kernel
theorem d_Mo_tick_30 : decode b_Mo_tick 30 = .ok (.ireturn, 1) := by decide +kernel
theorem d_Mo_variable_0 : decode b_Mo_variable 0 = .ok (.aload_n 0, 1) := by decide +kernel
theorem d_Mo_variable_1 : decode b_Mo_variable 1 = .ok (.iload_n 1, 1) := by decide +kernel
theorem d_Mo_variable_2 : decode b_Mo_variable 2 = .ok (.iconst 0, 1) := by decide +kernel
theorem d_Mo_variable_3 : decode b_Mo_variable 3 = .ok (.iconst 2, 1) := by decide +kernel
theorem d_Mo_variable_4 : decode b_Mo_variable 4 = .ok (.invokestatic 103, 3) := by decide +kernel
theorem d_Mo_variable_7 : decode b_Mo_variable 7 = .ok (.ifCond .ne 21, 3) := by decide +kernel
theorem d_Mo_variable_10 : decode b_Mo_variable 10 = .ok (.iload_n 1, 1) := by decide +kernel
theorem d_Mo_variable_11 : decode b_Mo_variable 11 = .ok (.iconst 3, 1) := by decide +kernel
theorem d_Mo_variable_12 : decode b_Mo_variable 12 = .ok (.iconst 5, 1) := by decide +kernel
theorem d_Mo_variable_13 : decode b_Mo_variable 13 = .ok (.invokestatic 103, 3) := by decide +kernel
theorem d_Mo_variable_16 : decode b_Mo_variable 16 = .ok (.ifCond .eq 16, 3) := by decide +kernel
theorem d_Mo_variable_19 : decode b_Mo_variable 19 = .ok (.iload_n 2, 1) := by decide +kernel
theorem d_Mo_variable_20 : decode b_Mo_variable 20 = .ok (.iconst 0, 1) := by decide +kernel
theorem d_Mo_variable_21 : decode b_Mo_variable 21 = .ok (.iconst 3, 1) := by decide +kernel
theorem d_Mo_variable_22 : decode b_Mo_variable 22 = .ok (.invokestatic 103, 3) := by decide +kernel
theorem d_Mo_variable_25 : decode b_Mo_variable 25 = .ok (.ifCond .eq 7, 3) := by decide +kernel
theorem d_Mo_variable_28 : decode b_Mo_variable 28 = .ok (.iconst 1, 1) := by decide +kernel
theorem d_Mo_variable_29 : decode b_Mo_variable 29 = .ok (.goto 4, 3) := by decide +kernel
theorem d_Mo_variable_32 : decode b_Mo_variable 32 = .ok (.iconst 0, 1) := by decide +kernel
theorem d_Mo_variable_33 : decode b_Mo_variable 33 = .ok (.invokevirtual 107, 3) := by decide +kernel
theorem d_Mo_variable_36 : decode b_Mo_variable 36 = .ok (.ifCond .eq 5, 3) := by decide +kernel
theorem d_Mo_variable_39 : decode b_Mo_variable 39 = .ok (.dconst 0, 1) := by decide +kernel
theorem d_Mo_variable_40 : decode b_Mo_variable 40 = .ok (.dreturn, 1) := by decide +kernel
theorem d_Mo_variable_41 : decode b_Mo_variable 41 = .ok (.iload_n 1, 1) := by decide +kernel
theorem d_Mo_variable_42 : decode b_Mo_variable 42 = .ok (.iconst 3, 1) := by decide +kernel
theorem d_Mo_variable_43 : decode b_Mo_variable 43 = .ok (.if_icmp .ge 12, 3) := by decide +kernel
theorem d_Mo_variable_46 : decode b_Mo_variable 46 = .ok (.aload_n 0, 1) := by decide +kernel
theorem d_Mo_variable_47 : decode b_Mo_variable 47 = .ok (.getfield 53, 3) := by decide +kernel
theorem d_Mo_variable_50 : decode b_Mo_variable 50 = .ok (.iload_n 1, 1) := by decide +kernel
theorem d_Mo_variable_51 : decode b_Mo_variable 51 = .ok (.daload, 1) := by decide +kernel
theorem d_Mo_variable_52 : decode b_Mo_variable 52 = .ok (.goto 15, 3) := by decide +kernel
theorem d_Mo_variable_55 : decode b_Mo_variable 55 = .ok (.aload_n 0, 1) := by decide +kernel
theorem d_Mo_variable_56 : decode b_Mo_variable 56 = .ok (.getfield 57, 3) := by decide +kernel
theorem d_Mo_variable_59 : decode b_Mo_variable 59 = .ok (.iload_n 2, 1) := by decide +kernel
theorem d_Mo_variable_60 : decode b_Mo_variable 60 = .ok (.iconst 3, 1) := by decide +kernel
theorem d_Mo_variable_61 : decode b_Mo_variable 61 = .ok (.imul, 1) := by decide +kernel
theorem d_Mo_variable_62 : decode b_Mo_variable 62 = .ok (.iload_n 1, 1) := by decide +kernel
theorem d_Mo_variable_63 : decode b_Mo_variable 63 = .ok (.iadd, 1) := by decide +kernel
theorem d_Mo_variable_64 : decode b_Mo_variable 64 = .ok (.iconst 3, 1) := by decide +kernel
theorem d_Mo_variable_65 : decode b_Mo_variable 65 = .ok (.isub, 1) := by decide +kernel
theorem d_Mo_variable_66 : decode b_Mo_variable 66 = .ok (.daload, 1) := by decide +kernel
theorem d_Mo_variable_67 : decode b_Mo_variable 67 = .ok (.dreturn, 1) := by decide +kernel
theorem d_Mo_gathered_0 : decode b_Mo_gathered 0 = .ok (.aload_n 0, 1) := by decide +kernel
theorem d_Mo_gathered_1 : decode b_Mo_gathered 1 = .ok (.iload_n 1, 1) := by decide +kernel
theorem d_Mo_gathered_2 : decode b_Mo_gathered 2 = .ok (.iconst 0, 1) := by decide +kernel
theorem d_Mo_gathered_3 : decode b_Mo_gathered 3 = .ok (.iconst 2, 1) := by decide +kernel
theorem d_Mo_gathered_4 : decode b_Mo_gathered 4 = .ok (.invokestatic 103, 3) := by decide +kernel
theorem d_Mo_gathered_7 : decode b_Mo_gathered 7 = .ok (.ifCond .eq 16, 3) := by decide +kernel
theorem d_Mo_gathered_10 : decode b_Mo_gathered 10 = .ok (.iload_n 3, 1) := by decide +kernel
theorem d_Mo_gathered_11 : decode b_Mo_gathered 11 = .ok (.iconst 0, 1) := by decide +kernel
theorem d_Mo_gathered_12 : decode b_Mo_gathered 12 = .ok (.iconst 3, 1) := by decide +kernel
theorem d_Mo_gathered_13 : decode b_Mo_gathered 13 = .ok (.invokestatic 103, 3) := by decide +kernel
theorem d_Mo_gathered_16 : decode b_Mo_gathered 16 = .ok (.ifCond .eq 7, 3) := by decide +kernel
theorem d_Mo_gathered_19 : decode b_Mo_gathered 19 = .ok (.iconst 1, 1) := by decide +kernel
theorem d_Mo_gathered_20 : decode b_Mo_gathered 20 = .ok (.goto 4, 3) := by decide +kernel
theorem d_Mo_gathered_23 : decode b_Mo_gathered 23 = .ok (.iconst 0, 1) := by decide +kernel
theorem d_Mo_gathered_24 : decode b_Mo_gathered 24 = .ok (.invokevirtual 107, 3) := by decide +kernel
theorem d_Mo_gathered_27 : decode b_Mo_gathered 27 = .ok (.ifCond .eq 5, 3) := by decide +kernel
theorem d_Mo_gathered_30 : decode b_Mo_gathered 30 = .ok (.dconst 0, 1) := by decide +kernel
theorem d_Mo_gathered_31 : decode b_Mo_gathered 31 = .ok (.dreturn, 1) := by decide +kernel
theorem d_Mo_gathered_32 : decode b_Mo_gathered 32 = .ok (.aload_n 0, 1) := by decide +kernel
theorem d_Mo_gathered_33 : decode b_Mo_gathered 33 = .ok (.iload_n 1, 1) := by decide +kernel
theorem d_Mo_gathered_34 : decode b_Mo_gathered 34 = .ok (.iload_n 2, 1) := by decide +kernel
theorem d_Mo_gathered_35 : decode b_Mo_gathered 35 = .ok (.invokevirtual 191, 3) := by decide +kernel
theorem d_Mo_gathered_38 : decode b_Mo_gathered 38 = .ok (.istore 4, 2) := by decide +kernel
theorem d_Mo_gathered_40 : decode b_Mo_gathered 40 = .ok (.iload 4, 2) := by decide +kernel
theorem d_Mo_gathered_42 : decode b_Mo_gathered 42 = .ok (.ifCond .ge 9, 3) := by decide +kernel
theorem d_Mo_gathered_45 : decode b_Mo_gathered 45 = .ok (.aload_n 0, 1) := by decide +kernel
theorem d_Mo_gathered_46 : decode b_Mo_gathered 46 = .ok (.iconst 2, 1) := by decide +kernel
theorem d_Mo_gathered_47 : decode b_Mo_gathered 47 = .ok (.invokevirtual 240, 3) := by decide +kernel
theorem d_Mo_gathered_50 : decode b_Mo_gathered 50 = .ok (.dreturn, 1) := by decide +kernel
theorem d_Mo_gathered_51 : decode b_Mo_gathered 51 = .ok (.iload_n 3, 1) := by decide +kernel
theorem d_Mo_gathered_52 : decode b_Mo_gathered 52 = .ok (.ifCond .ne 13, 3) := by decide +kernel
theorem d_Mo_gathered_55 : decode b_Mo_gathered 55 = .ok (.aload_n 0, 1) := by decide +kernel
theorem d_Mo_gathered_56 : decode b_Mo_gathered 56 = .ok (.getfield 87, 3) := by decide +kernel
theorem d_Mo_gathered_59 : decode b_Mo_gathered 59 = .ok (.iload 4, 2) := by decide +kernel
theorem d_Mo_gathered_61 : decode b_Mo_gathered 61 = .ok (.daload, 1) := by decide +kernel
theorem d_Mo_gathered_62 : decode b_Mo_gathered 62 = .ok (.goto 49, 3) := by decide +kernel
theorem d_Mo_gathered_65 : decode b_Mo_gathered 65 = .ok (.iload_n 3, 1) := by decide +kernel
theorem d_Mo_gathered_66 : decode b_Mo_gathered 66 = .ok (.iconst 1, 1) := by decide +kernel
theorem d_Mo_gathered_67 : decode b_Mo_gathered 67 = .ok (.if_icmp .ne 13, 3) := by decide +kernel
theorem d_Mo_gathered_70 : decode b_Mo_gathered 70 = .ok (.aload_n 0, 1) := by decide +kernel
theorem d_Mo_gathered_71 : decode b_Mo_gathered 71 = .ok (.getfield 90, 3) := by decide +kernel
theorem d_Mo_gathered_74 : decode b_Mo_gathered 74 = .ok (.iload 4, 2) := by decide +kernel
theorem d_Mo_gathered_76 : decode b_Mo_gathered 76 = .ok (.daload, 1) := by decide +kernel
theorem d_Mo_gathered_77 : decode b_Mo_gathered 77 = .ok (.goto 34, 3) := by decide +kernel
theorem d_Mo_gathered_80 : decode b_Mo_gathered 80 = .ok (.iload_n 3, 1) := by decide +kernel
theorem d_Mo_gathered_81 : decode b_Mo_gathered 81 = .ok (.iconst 2, 1) := by decide +kernel
theorem d_Mo_gathered_82 : decode b_Mo_gathered 82 = .ok (.if_icmp .ne 13, 3) := by decide +kernel
theorem d_Mo_gathered_85 : decode b_Mo_gathered 85 = .ok (.aload_n 0, 1) := by decide +kernel
theorem d_Mo_gathered_86 : decode b_Mo_gathered 86 = .ok (.getfield 93, 3) := by decide +kernel
theorem d_Mo_gathered_89 : decode b_Mo_gathered 89 = .ok (.iload 4, 2) := by decide +kernel
theorem d_Mo_gathered_91 : decode b_Mo_gathered 91 = .ok (.daload, 1) := by decide +kernel
theorem d_Mo_gathered_92 : decode b_Mo_gathered 92 = .ok (.goto 19, 3) := by decide +kernel
theorem d_Mo_gathered_95 : decode b_Mo_gathered 95 = .ok (.aload_n 0, 1) := by decide +kernel
theorem d_Mo_gathered_96 : decode b_Mo_gathered 96 = .ok (.getfield 87, 3) := by decide +kernel
theorem d_Mo_gathered_99 : decode b_Mo_gathered 99 = .ok (.iload 4, 2) := by decide +kernel
theorem d_Mo_gathered_101 : decode b_Mo_gathered 101 = .ok (.daload, 1) := by decide +kernel
theorem d_Mo_gathered_102 : decode b_Mo_gathered 102 = .ok (.aload_n 0, 1) := by decide +kernel
theorem d_Mo_gathered_103 : decode b_Mo_gathered 103 = .ok (.getfield 75, 3) := by decide +kernel
theorem d_Mo_gathered_106 : decode b_Mo_gathered 106 = .ok (.iload 4, 2) := by decide +kernel
theorem d_Mo_gathered_108 : decode b_Mo_gathered 108 = .ok (.iaload, 1) := by decide +kernel
theorem d_Mo_gathered_109 : decode b_Mo_gathered 109 = .ok (.i2d, 1) := by decide +kernel
theorem d_Mo_gathered_110 : decode b_Mo_gathered 110 = .ok (.ddiv, 1) := by decide +kernel
theorem d_Mo_gathered_111 : decode b_Mo_gathered 111 = .ok (.dreturn, 1) := by decide +kernel
theorem d_Mo_many_0 : decode b_Mo_many 0 = .ok (.aload_n 0, 1) := by decide +kernel
theorem d_Mo_many_1 : decode b_Mo_many 1 = .ok (.iload_n 1, 1) := by decide +kernel
theorem d_Mo_many_2 : decode b_Mo_many 2 = .ok (.iconst 0, 1) := by decide +kernel
theorem d_Mo_many_3 : decode b_Mo_many 3 = .ok (.iconst 2, 1) := by decide +kernel
theorem d_Mo_many_4 : decode b_Mo_many 4 = .ok (.invokestatic 103, 3) := by decide +kernel
theorem d_Mo_many_7 : decode b_Mo_many 7 = .ok (.ifCond .eq 17, 3) := by decide +kernel
theorem d_Mo_many_10 : decode b_Mo_many 10 = .ok (.iload_n 3, 1) := by decide +kernel
theorem d_Mo_many_11 : decode b_Mo_many 11 = .ok (.iconst 0, 1) := by decide +kernel
theorem d_Mo_many_12 : decode b_Mo_many 12 = .ok (.bipush 8, 2) := by decide +kernel
theorem d_Mo_many_14 : decode b_Mo_many 14 = .ok (.invokestatic 103, 3) := by decide +kernel
theorem d_Mo_many_17 : decode b_Mo_many 17 = .ok (.ifCond .eq 7, 3) := by decide +kernel
theorem d_Mo_many_20 : decode b_Mo_many 20 = .ok (.iconst 1, 1) := by decide +kernel
theorem d_Mo_many_21 : decode b_Mo_many 21 = .ok (.goto 4, 3) := by decide +kernel
theorem d_Mo_many_24 : decode b_Mo_many 24 = .ok (.iconst 0, 1) := by decide +kernel
theorem d_Mo_many_25 : decode b_Mo_many 25 = .ok (.invokevirtual 107, 3) := by decide +kernel
theorem d_Mo_many_28 : decode b_Mo_many 28 = .ok (.ifCond .eq 5, 3) := by decide +kernel
theorem d_Mo_many_31 : decode b_Mo_many 31 = .ok (.iconst 0, 1) := by decide +kernel
theorem d_Mo_many_32 : decode b_Mo_many 32 = .ok (.ireturn, 1) := by decide +kernel
theorem d_Mo_many_33 : decode b_Mo_many 33 = .ok (.aload_n 0, 1) := by decide +kernel
theorem d_Mo_many_34 : decode b_Mo_many 34 = .ok (.iload_n 1, 1) := by decide +kernel
theorem d_Mo_many_35 : decode b_Mo_many 35 = .ok (.iload_n 2, 1) := by decide +kernel
theorem d_Mo_many_36 : decode b_Mo_many 36 = .ok (.invokevirtual 191, 3) := by decide +kernel
theorem d_Mo_many_39 : decode b_Mo_many 39 = .ok (.istore 4, 2) := by decide +kernel
theorem d_Mo_many_41 : decode b_Mo_many 41 = .ok (.iload 4, 2) := by decide +kernel
theorem d_Mo_many_43 : decode b_Mo_many 43 = .ok (.ifCond .ge 8, 3) := by decide +kernel
theorem d_Mo_many_46 : decode b_Mo_many 46 = .ok (.aload_n 0, 1) := by decide +kernel
theorem d_Mo_many_47 : decode b_Mo_many 47 = .ok (.iconst 2, 1) := by decide +kernel
theorem d_Mo_many_48 : decode b_Mo_many 48 = .ok (.putfield 100, 3) := by decide +kernel
theorem d_Mo_many_51 : decode b_Mo_many 51 = .ok (.iload 4, 2) := by decide +kernel
theorem d_Mo_many_53 : decode b_Mo_many 53 = .ok (.ifCond .ge 7, 3) := by decide +kernel
theorem d_Mo_many_56 : decode b_Mo_many 56 = .ok (.iconst 0, 1) := by decide +kernel
theorem d_Mo_many_57 : decode b_Mo_many 57 = .ok (.goto 31, 3) := by decide +kernel
theorem d_Mo_many_60 : decode b_Mo_many 60 = .ok (.iload_n 3, 1) := by decide +kernel
theorem d_Mo_many_61 : decode b_Mo_many 61 = .ok (.bipush 8, 2) := by decide +kernel
theorem d_Mo_many_63 : decode b_Mo_many 63 = .ok (.if_icmp .ge 18, 3) := by decide +kernel
theorem d_Mo_many_66 : decode b_Mo_many 66 = .ok (.aload_n 0, 1) := by decide +kernel
theorem d_Mo_many_67 : decode b_Mo_many 67 = .ok (.getfield 78, 3) := by decide +kernel
theorem d_Mo_many_70 : decode b_Mo_many 70 = .ok (.iload 4, 2) := by decide +kernel
theorem d_Mo_many_72 : decode b_Mo_many 72 = .ok (.bipush 8, 2) := by decide +kernel
theorem d_Mo_many_74 : decode b_Mo_many 74 = .ok (.imul, 1) := by decide +kernel
theorem d_Mo_many_75 : decode b_Mo_many 75 = .ok (.iload_n 3, 1) := by decide +kernel
theorem d_Mo_many_76 : decode b_Mo_many 76 = .ok (.iadd, 1) := by decide +kernel
theorem d_Mo_many_77 : decode b_Mo_many 77 = .ok (.iaload, 1) := by decide +kernel
theorem d_Mo_many_78 : decode b_Mo_many 78 = .ok (.goto 10, 3) := by decide +kernel
theorem d_Mo_many_81 : decode b_Mo_many 81 = .ok (.aload_n 0, 1) := by decide +kernel
theorem d_Mo_many_82 : decode b_Mo_many 82 = .ok (.getfield 75, 3) := by decide +kernel
theorem d_Mo_many_85 : decode b_Mo_many 85 = .ok (.iload 4, 2) := by decide +kernel
theorem d_Mo_many_87 : decode b_Mo_many 87 = .ok (.iaload, 1) := by decide +kernel
theorem d_Mo_many_88 : decode b_Mo_many 88 = .ok (.ireturn, 1) := by decide +kernel
theorem d_Mo_record_0 : decode b_Mo_record 0 = .ok (.aload_n 0, 1) := by decide +kernel
theorem d_Mo_record_1 : decode b_Mo_record 1 = .ok (.aload_n 0, 1) := by decide +kernel
theorem d_Mo_record_2 : decode b_Mo_record 2 = .ok (.getfield 202, 3) := by decide +kernel
theorem d_Mo_record_5 : decode b_Mo_record 5 = .ok (.ifCond .ne 7, 3) := by decide +kernel
theorem d_Mo_record_8 : decode b_Mo_record 8 = .ok (.iconst 1, 1) := by decide +kernel
theorem d_Mo_record_9 : decode b_Mo_record 9 = .ok (.goto 4, 3) := by decide +kernel
theorem d_Mo_record_12 : decode b_Mo_record 12 = .ok (.iconst 0, 1) := by decide +kernel
theorem d_Mo_record_13 : decode b_Mo_record 13 = .ok (.putfield 100, 3) := by decide +kernel
theorem d_Mo_record_16 : decode b_Mo_record 16 = .ok (.aload_n 0, 1) := by decide +kernel
theorem d_Mo_record_17 : decode b_Mo_record 17 = .ok (.getfield 202, 3) := by decide +kernel
theorem d_Mo_record_20 : decode b_Mo_record 20 = .ok (.ifCond .ne 5, 3) := by decide +kernel
theorem d_Mo_record_23 : decode b_Mo_record 23 = .ok (.dconst 0, 1) := by decide +kernel
theorem d_Mo_record_24 : decode b_Mo_record 24 = .ok (.dreturn, 1) := by decide +kernel
theorem d_Mo_record_25 : decode b_Mo_record 25 = .ok (.aload_n 0, 1) := by decide +kernel
theorem d_Mo_record_26 : decode b_Mo_record 26 = .ok (.getfield 60, 3) := by decide +kernel
theorem d_Mo_record_29 : decode b_Mo_record 29 = .ok (.iconst 0, 1) := by decide +kernel
theorem d_Mo_record_30 : decode b_Mo_record 30 = .ok (.daload, 1) := by decide +kernel
theorem d_Mo_record_31 : decode b_Mo_record 31 = .ok (.dstore_n 1, 1) := by decide +kernel
theorem d_Mo_record_32 : decode b_Mo_record 32 = .ok (.aload_n 0, 1) := by decide +kernel
theorem d_Mo_record_33 : decode b_Mo_record 33 = .ok (.dup, 1) := by decide +kernel
theorem d_Mo_record_34 : decode b_Mo_record 34 = .ok (.getfield 202, 3) := by decide +kernel
theorem d_Mo_record_37 : decode b_Mo_record 37 = .ok (.iconst 1, 1) := by decide +kernel
theorem d_Mo_record_38 : decode b_Mo_record 38 = .ok (.isub, 1) := by decide +kernel
theorem d_Mo_record_39 : decode b_Mo_record 39 = .ok (.putfield 202, 3) := by decide +kernel
theorem d_Mo_record_42 : decode b_Mo_record 42 = .ok (.iconst 0, 1) := by decide +kernel
theorem d_Mo_record_43 : decode b_Mo_record 43 = .ok (.istore_n 3, 1) := by decide +kernel
theorem d_Mo_record_44 : decode b_Mo_record 44 = .ok (.iload_n 3, 1) := by decide +kernel
theorem d_Mo_record_45 : decode b_Mo_record 45 = .ok (.aload_n 0, 1) := by decide +kernel
theorem d_Mo_record_46 : decode b_Mo_record 46 = .ok (.getfield 202, 3) := by decide +kernel
theorem d_Mo_record_49 : decode b_Mo_record 49 = .ok (.if_icmp .ge 23, 3) := by decide +kernel
theorem d_Mo_record_52 : decode b_Mo_record 52 = .ok (.aload_n 0, 1) := by decide +kernel
theorem d_Mo_record_53 : decode b_Mo_record 53 = .ok (.getfield 60, 3) := by decide +kernel
theorem d_Mo_record_56 : decode b_Mo_record 56 = .ok (.iload_n 3, 1) := by decide +kernel
theorem d_Mo_record_57 : decode b_Mo_record 57 = .ok (.aload_n 0, 1) := by decide +kernel
theorem d_Mo_record_58 : decode b_Mo_record 58 = .ok (.getfield 60, 3) := by decide +kernel
theorem d_Mo_record_61 : decode b_Mo_record 61 = .ok (.iload_n 3, 1) := by decide +kernel
theorem d_Mo_record_62 : decode b_Mo_record 62 = .ok (.iconst 1, 1) := by decide +kernel
theorem d_Mo_record_63 : decode b_Mo_record 63 = .ok (.iadd, 1) := by decide +kernel
theorem d_Mo_record_64 : decode b_Mo_record 64 = .ok (.daload, 1) := by decide +kernel
theorem d_Mo_record_65 : decode b_Mo_record 65 = .ok (.dastore, 1) := by decide +kernel
theorem d_Mo_record_66 : decode b_Mo_record 66 = .ok (.iinc 3 1, 3) := by decide +kernel
theorem d_Mo_record_69 : decode b_Mo_record 69 = .ok (.goto (-25), 3) := by decide +kernel
theorem d_Mo_record_72 : decode b_Mo_record 72 = .ok (.dload_n 1, 1) := by decide +kernel
theorem d_Mo_record_73 : decode b_Mo_record 73 = .ok (.dreturn, 1) := by decide +kernel
theorem d_Mo_count_0 : decode b_Mo_count 0 = .ok (.aload_n 0, 1) := by decide +kernel
theorem d_Mo_count_1 : decode b_Mo_count 1 = .ok (.iconst 0, 1) := by decide +kernel
theorem d_Mo_count_2 : decode b_Mo_count 2 = .ok (.putfield 100, 3) := by decide +kernel
theorem d_Mo_count_5 : decode b_Mo_count 5 = .ok (.iconst 0, 1) := by decide +kernel
theorem d_Mo_count_6 : decode b_Mo_count 6 = .ok (.istore_n 2, 1) := by decide +kernel
theorem d_Mo_count_7 : decode b_Mo_count 7 = .ok (.iconst 0, 1) := by decide +kernel
theorem d_Mo_count_8 : decode b_Mo_count 8 = .ok (.istore_n 3, 1) := by decide +kernel
theorem d_Mo_count_9 : decode b_Mo_count 9 = .ok (.iload_n 3, 1) := by decide +kernel
theorem d_Mo_count_10 : decode b_Mo_count 10 = .ok (.bipush 6, 2) := by decide +kernel
theorem d_Mo_count_12 : decode b_Mo_count 12 = .ok (.if_icmp .ge 21, 3) := by decide +kernel
theorem d_Mo_count_15 : decode b_Mo_count 15 = .ok (.aload_n 0, 1) := by decide +kernel
theorem d_Mo_count_16 : decode b_Mo_count 16 = .ok (.getfield 43, 3) := by decide +kernel
theorem d_Mo_count_19 : decode b_Mo_count 19 = .ok (.iload_n 3, 1) := by decide +kernel
theorem d_Mo_count_20 : decode b_Mo_count 20 = .ok (.baload, 1) := by decide +kernel
theorem d_Mo_count_21 : decode b_Mo_count 21 = .ok (.ifCond .eq 6, 3) := by decide +kernel
theorem d_Mo_count_24 : decode b_Mo_count 24 = .ok (.iinc 2 1, 3) := by decide +kernel
theorem d_Mo_count_27 : decode b_Mo_count 27 = .ok (.iinc 3 1, 3) := by decide +kernel
theorem d_Mo_count_30 : decode b_Mo_count 30 = .ok (.goto (-21), 3) := by decide +kernel
theorem d_Mo_count_33 : decode b_Mo_count 33 = .ok (.iload_n 1, 1) := by decide +kernel
theorem d_Mo_count_34 : decode b_Mo_count 34 = .ok (.bipush 20, 2) := by decide +kernel
theorem d_Mo_count_36 : decode b_Mo_count 36 = .ok (.bipush 25, 2) := by decide +kernel
theorem d_Mo_count_38 : decode b_Mo_count 38 = .ok (.invokestatic 103, 3) := by decide +kernel
theorem d_Mo_count_41 : decode b_Mo_count 41 = .ok (.ifCond .eq 29, 3) := by decide +kernel
theorem d_Mo_count_44 : decode b_Mo_count 44 = .ok (.aload_n 0, 1) := by decide +kernel
theorem d_Mo_count_45 : decode b_Mo_count 45 = .ok (.getfield 43, 3) := by decide +kernel
theorem d_Mo_count_48 : decode b_Mo_count 48 = .ok (.iload_n 1, 1) := by decide +kernel
theorem d_Mo_count_49 : decode b_Mo_count 49 = .ok (.bipush 20, 2) := by decide +kernel
theorem d_Mo_count_51 : decode b_Mo_count 51 = .ok (.isub, 1) := by decide +kernel
theorem d_Mo_count_52 : decode b_Mo_count 52 = .ok (.baload, 1) := by decide +kernel
theorem d_Mo_count_53 : decode b_Mo_count 53 = .ok (.ifCond .eq 15, 3) := by decide +kernel
theorem d_Mo_count_56 : decode b_Mo_count 56 = .ok (.aload_n 0, 1) := by decide +kernel
theorem d_Mo_count_57 : decode b_Mo_count 57 = .ok (.getfield 37, 3) := by decide +kernel
theorem d_Mo_count_60 : decode b_Mo_count 60 = .ok (.iload_n 1, 1) := by decide +kernel
theorem d_Mo_count_61 : decode b_Mo_count 61 = .ok (.bipush 20, 2) := by decide +kernel
theorem d_Mo_count_63 : decode b_Mo_count 63 = .ok (.isub, 1) := by decide +kernel
theorem d_Mo_count_64 : decode b_Mo_count 64 = .ok (.iaload, 1) := by decide +kernel
theorem d_Mo_count_65 : decode b_Mo_count 65 = .ok (.goto 4, 3) := by decide +kernel
theorem d_Mo_count_68 : decode b_Mo_count 68 = .ok (.iconst (-1), 1) := by decide +kernel
theorem d_Mo_count_69 : decode b_Mo_count 69 = .ok (.ireturn, 1) := by decide +kernel
theorem d_Mo_count_70 : decode b_Mo_count 70 = .ok (.iload_n 1, 1) := by decide +kernel
theorem d_Mo_count_71 : decode b_Mo_count 71 = .ok (.bipush 30, 2) := by decide +kernel
theorem d_Mo_count_73 : decode b_Mo_count 73 = .ok (.bipush 35, 2) := by decide +kernel
theorem d_Mo_count_75 : decode b_Mo_count 75 = .ok (.invokestatic 103, 3) := by decide +kernel
theorem d_Mo_count_78 : decode b_Mo_count 78 = .ok (.ifCond .eq 29, 3) := by decide +kernel
theorem d_Mo_count_81 : decode b_Mo_count 81 = .ok (.aload_n 0, 1) := by decide +kernel
theorem d_Mo_count_82 : decode b_Mo_count 82 = .ok (.getfield 43, 3) := by decide +kernel
theorem d_Mo_count_85 : decode b_Mo_count 85 = .ok (.iload_n 1, 1) := by decide +kernel
theorem d_Mo_count_86 : decode b_Mo_count 86 = .ok (.bipush 30, 2) := by decide +kernel
theorem d_Mo_count_88 : decode b_Mo_count 88 = .ok (.isub, 1) := by decide +kernel
theorem d_Mo_count_89 : decode b_Mo_count 89 = .ok (.baload, 1) := by decide +kernel
theorem d_Mo_count_90 : decode b_Mo_count 90 = .ok (.ifCond .eq 15, 3) := by decide +kernel
theorem d_Mo_count_93 : decode b_Mo_count 93 = .ok (.aload_n 0, 1) := by decide +kernel
theorem d_Mo_count_94 : decode b_Mo_count 94 = .ok (.getfield 40, 3) := by decide +kernel
theorem d_Mo_count_97 : decode b_Mo_count 97 = .ok (.iload_n 1, 1) := by decide +kernel
theorem d_Mo_count_98 : decode b_Mo_count 98 = .ok (.bipush 30, 2) := by decide +kernel
theorem d_Mo_count_100 : decode b_Mo_count 100 = .ok (.isub, 1) := by decide +kernel
theorem d_Mo_count_101 : decode b_Mo_count 101 = .ok (.iaload, 1) := by decide +kernel
theorem d_Mo_count_102 : decode b_Mo_count 102 = .ok (.goto 4, 3) := by decide +kernel
theorem d_Mo_count_105 : decode b_Mo_count 105 = .ok (.iconst (-1), 1) := by decide +kernel
theorem d_Mo_count_106 : decode b_Mo_count 106 = .ok (.ireturn, 1) := by decide +kernel
theorem d_Mo_count_107 : decode b_Mo_count 107 = .ok (.iload_n 1, 1) := by decide +kernel
theorem d_Mo_count_108 : decode b_Mo_count 108 = .ok (.tableswitch 107 0 10 #[60, 65, 70, 72, 77, 82, 87, 92, 97, 97, 97], 60) := by decide +kernel
theorem d_Mo_count_168 : decode b_Mo_count 168 = .ok (.aload_n 0, 1) := by decide +kernel
theorem d_Mo_count_169 : decode b_Mo_count 169 = .ok (.getfield 96, 3) := by decide +kernel
theorem d_Mo_count_172 : decode b_Mo_count 172 = .ok (.ireturn, 1) := by decide +kernel
theorem d_Mo_count_173 : decode b_Mo_count 173 = .ok (.aload_n 0, 1) := by decide +kernel
theorem d_Mo_count_174 : decode b_Mo_count 174 = .ok (.getfield 111, 3) := by decide +kernel
theorem d_Mo_count_177 : decode b_Mo_count 177 = .ok (.ireturn, 1) := by decide +kernel
theorem d_Mo_count_178 : decode b_Mo_count 178 = .ok (.iload_n 2, 1) := by decide +kernel
theorem d_Mo_count_179 : decode b_Mo_count 179 = .ok (.ireturn, 1) := by decide +kernel
theorem d_Mo_count_180 : decode b_Mo_count 180 = .ok (.aload_n 0, 1) := by decide +kernel
theorem d_Mo_count_181 : decode b_Mo_count 181 = .ok (.invokevirtual 237, 3) := by decide +kernel
theorem d_Mo_count_184 : decode b_Mo_count 184 = .ok (.ireturn, 1) := by decide +kernel
theorem d_Mo_count_185 : decode b_Mo_count 185 = .ok (.aload_n 0, 1) := by decide +kernel
theorem d_Mo_count_186 : decode b_Mo_count 186 = .ok (.getfield 202, 3) := by decide +kernel
theorem d_Mo_count_189 : decode b_Mo_count 189 = .ok (.ireturn, 1) := by decide +kernel
theorem d_Mo_count_190 : decode b_Mo_count 190 = .ok (.aload_n 0, 1) := by decide +kernel
theorem d_Mo_count_191 : decode b_Mo_count 191 = .ok (.getfield 205, 3) := by decide +kernel
theorem d_Mo_count_194 : decode b_Mo_count 194 = .ok (.ireturn, 1) := by decide +kernel
theorem d_Mo_count_195 : decode b_Mo_count 195 = .ok (.aload_n 0, 1) := by decide +kernel
theorem d_Mo_count_196 : decode b_Mo_count 196 = .ok (.getfield 195, 3) := by decide +kernel
theorem d_Mo_count_199 : decode b_Mo_count 199 = .ok (.ireturn, 1) := by decide +kernel
theorem d_Mo_count_200 : decode b_Mo_count 200 = .ok (.aload_n 0, 1) := by decide +kernel
theorem d_Mo_count_201 : decode b_Mo_count 201 = .ok (.getfield 230, 3) := by decide +kernel
theorem d_Mo_count_204 : decode b_Mo_count 204 = .ok (.ireturn, 1) := by decide +kernel
theorem d_Mo_count_205 : decode b_Mo_count 205 = .ok (.aload_n 0, 1) := by decide +kernel
theorem d_Mo_count_206 : decode b_Mo_count 206 = .ok (.getfield 69, 3) := by decide +kernel
theorem d_Mo_count_209 : decode b_Mo_count 209 = .ok (.iload_n 1, 1) := by decide +kernel
theorem d_Mo_count_210 : decode b_Mo_count 210 = .ok (.bipush 8, 2) := by decide +kernel
theorem d_Mo_count_212 : decode b_Mo_count 212 = .ok (.isub, 1) := by decide +kernel
