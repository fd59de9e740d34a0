theorem d_La_type_0 : decode b_La_type 0 = .ok (.aload_n 3, 1) := by decide +kernel
theorem d_La_type_1 : decode b_La_type 1 = .ok (.iconst 0, 1) := by decide +kernel
theorem d_La_type_2 : decode b_La_type 2 = .ok (.aload_n 0, 1) := by decide +kernel
theorem d_La_type_3 : decode b_La_type 3 = .ok (.lload_n 1, 1) := by decide +kernel
theorem d_La_type_4 : decode b_La_type 4 = .ok (.invokevirtual 7, 3) := by decide +kernel
theorem d_La_type_7 : decode b_La_type 7 = .ok (.i2l, 1) := by decide +kernel
theorem d_La_type_8 : decode b_La_type 8 = .ok (.lastore, 1) := by decide +kernel
theorem d_La_type_9 : decode b_La_type 9 = .ok (.goto 11, 3) := by decide +kernel
theorem d_La_type_12 : decode b_La_type 12 = .ok (.astore 4, 2) := by decide +kernel
theorem d_La_type_14 : decode b_La_type 14 = .ok (.iconst 1, 1) := by decide +kernel
theorem d_La_type_15 : decode b_La_type 15 = .ok (.ireturn, 1) := by decide +kernel
theorem d_La_type_16 : decode b_La_type 16 = .ok (.astore 4, 2) := by decide +kernel
theorem d_La_type_18 : decode b_La_type 18 = .ok (.iconst 2, 1) := by decide +kernel
theorem d_La_type_19 : decode b_La_type 19 = .ok (.ireturn, 1) := by decide +kernel
theorem d_La_type_20 : decode b_La_type 20 = .ok (.iconst 0, 1) := by decide +kernel
theorem d_La_type_21 : decode b_La_type 21 = .ok (.ireturn, 1) := by decide +kernel
theorem d_La_compile_0 : decode b_La_compile 0 = .ok (.aload_n 2, 1) := by decide +kernel
theorem d_La_compile_1 : decode b_La_compile 1 = .ok (.iconst 0, 1) := by decide +kernel
theorem d_La_compile_2 : decode b_La_compile 2 = .ok (.aload_n 0, 1) := by decide +kernel
theorem d_La_compile_3 : decode b_La_compile 3 = .ok (.iload_n 1, 1) := by decide +kernel
theorem d_La_compile_4 : decode b_La_compile 4 = .ok (.invokevirtual 17, 3) := by decide +kernel
theorem d_La_compile_7 : decode b_La_compile 7 = .ok (.i2l, 1) := by decide +kernel
theorem d_La_compile_8 : decode b_La_compile 8 = .ok (.lastore, 1) := by decide +kernel
theorem d_La_compile_9 : decode b_La_compile 9 = .ok (.goto 6, 3) := by decide +kernel
theorem d_La_compile_12 : decode b_La_compile 12 = .ok (.astore_n 3, 1) := by decide +kernel
theorem d_La_compile_13 : decode b_La_compile 13 = .ok (.iconst 1, 1) := by decide +kernel
theorem d_La_compile_14 : decode b_La_compile 14 = .ok (.ireturn, 1) := by decide +kernel
theorem d_La_compile_15 : decode b_La_compile 15 = .ok (.iconst 0, 1) := by decide +kernel
theorem d_La_compile_16 : decode b_La_compile 16 = .ok (.ireturn, 1) := by decide +kernel
theorem d_La_turn_0 : decode b_La_turn 0 = .ok (.aload_n 3, 1) := by decide +kernel
theorem d_La_turn_1 : decode b_La_turn 1 = .ok (.iconst 0, 1) := by decide +kernel
theorem d_La_turn_2 : decode b_La_turn 2 = .ok (.aload_n 0, 1) := by decide +kernel
theorem d_La_turn_3 : decode b_La_turn 3 = .ok (.iload_n 1, 1) := by decide +kernel
theorem d_La_turn_4 : decode b_La_turn 4 = .ok (.iload_n 2, 1) := by decide +kernel
theorem d_La_turn_5 : decode b_La_turn 5 = .ok (.invokevirtual 21, 3) := by decide +kernel
theorem d_La_turn_8 : decode b_La_turn 8 = .ok (.i2l, 1) := by decide +kernel
theorem d_La_turn_9 : decode b_La_turn 9 = .ok (.lastore, 1) := by decide +kernel
theorem d_La_turn_10 : decode b_La_turn 10 = .ok (.goto 11, 3) := by decide +kernel
theorem d_La_turn_13 : decode b_La_turn 13 = .ok (.astore 4, 2) := by decide +kernel
theorem d_La_turn_15 : decode b_La_turn 15 = .ok (.iconst 1, 1) := by decide +kernel
theorem d_La_turn_16 : decode b_La_turn 16 = .ok (.ireturn, 1) := by decide +kernel
theorem d_La_turn_17 : decode b_La_turn 17 = .ok (.astore 4, 2) := by decide +kernel
theorem d_La_turn_19 : decode b_La_turn 19 = .ok (.iconst 2, 1) := by decide +kernel
theorem d_La_turn_20 : decode b_La_turn 20 = .ok (.ireturn, 1) := by decide +kernel
theorem d_La_turn_21 : decode b_La_turn 21 = .ok (.iconst 0, 1) := by decide +kernel
theorem d_La_turn_22 : decode b_La_turn 22 = .ok (.ireturn, 1) := by decide +kernel
theorem d_La_fire_0 : decode b_La_fire 0 = .ok (.aload 10, 2) := by decide +kernel
theorem d_La_fire_2 : decode b_La_fire 2 = .ok (.iconst 0, 1) := by decide +kernel
theorem d_La_fire_3 : decode b_La_fire 3 = .ok (.aload_n 0, 1) := by decide +kernel
theorem d_La_fire_4 : decode b_La_fire 4 = .ok (.iload_n 1, 1) := by decide +kernel
theorem d_La_fire_5 : decode b_La_fire 5 = .ok (.iload_n 2, 1) := by decide +kernel
theorem d_La_fire_6 : decode b_La_fire 6 = .ok (.iload_n 3, 1) := by decide +kernel
theorem d_La_fire_7 : decode b_La_fire 7 = .ok (.dload 4, 2) := by decide +kernel
theorem d_La_fire_9 : decode b_La_fire 9 = .ok (.dload 6, 2) := by decide +kernel
theorem d_La_fire_11 : decode b_La_fire 11 = .ok (.dload 8, 2) := by decide +kernel
theorem d_La_fire_13 : decode b_La_fire 13 = .ok (.invokevirtual 27, 3) := by decide +kernel
theorem d_La_fire_16 : decode b_La_fire 16 = .ok (.i2l, 1) := by decide +kernel
theorem d_La_fire_17 : decode b_La_fire 17 = .ok (.lastore, 1) := by decide +kernel
theorem d_La_fire_18 : decode b_La_fire 18 = .ok (.goto 7, 3) := by decide +kernel
theorem d_La_fire_21 : decode b_La_fire 21 = .ok (.astore 11, 2) := by decide +kernel
theorem d_La_fire_23 : decode b_La_fire 23 = .ok (.iconst 1, 1) := by decide +kernel
theorem d_La_fire_24 : decode b_La_fire 24 = .ok (.ireturn, 1) := by decide +kernel
theorem d_La_fire_25 : decode b_La_fire 25 = .ok (.iconst 0, 1) := by decide +kernel
theorem d_La_fire_26 : decode b_La_fire 26 = .ok (.ireturn, 1) := by decide +kernel
theorem d_La_tick_0 : decode b_La_tick 0 = .ok (.aload_n 2, 1) := by decide +kernel
theorem d_La_tick_1 : decode b_La_tick 1 = .ok (.iconst 0, 1) := by decide +kernel
theorem d_La_tick_2 : decode b_La_tick 2 = .ok (.aload_n 0, 1) := by decide +kernel
theorem d_La_tick_3 : decode b_La_tick 3 = .ok (.iload_n 1, 1) := by decide +kernel
theorem d_La_tick_4 : decode b_La_tick 4 = .ok (.invokevirtual 31, 3) := by decide +kernel
theorem d_La_tick_7 : decode b_La_tick 7 = .ok (.i2l, 1) := by decide +kernel
theorem d_La_tick_8 : decode b_La_tick 8 = .ok (.lastore, 1) := by decide +kernel
theorem d_La_tick_9 : decode b_La_tick 9 = .ok (.goto 6, 3) := by decide +kernel
theorem d_La_tick_12 : decode b_La_tick 12 = .ok (.astore_n 3, 1) := by decide +kernel
theorem d_La_tick_13 : decode b_La_tick 13 = .ok (.iconst 1, 1) := by decide +kernel
theorem d_La_tick_14 : decode b_La_tick 14 = .ok (.ireturn, 1) := by decide +kernel
theorem d_La_tick_15 : decode b_La_tick 15 = .ok (.iconst 0, 1) := by decide +kernel
theorem d_La_tick_16 : decode b_La_tick 16 = .ok (.ireturn, 1) := by decide +kernel
theorem d_La_variable_0 : decode b_La_variable 0 = .ok (.aload_n 3, 1) := by decide +kernel
theorem d_La_variable_1 : decode b_La_variable 1 = .ok (.iconst 0, 1) := by decide +kernel
theorem d_La_variable_2 : decode b_La_variable 2 = .ok (.aload_n 0, 1) := by decide +kernel
theorem d_La_variable_3 : decode b_La_variable 3 = .ok (.iload_n 1, 1) := by decide +kernel
theorem d_La_variable_4 : decode b_La_variable 4 = .ok (.iload_n 2, 1) := by decide +kernel
theorem d_La_variable_5 : decode b_La_variable 5 = .ok (.invokevirtual 34, 3) := by decide +kernel
theorem d_La_variable_8 : decode b_La_variable 8 = .ok (.dastore, 1) := by decide +kernel
theorem d_La_variable_9 : decode b_La_variable 9 = .ok (.goto 7, 3) := by decide +kernel
theorem d_La_variable_12 : decode b_La_variable 12 = .ok (.astore 4, 2) := by decide +kernel
theorem d_La_variable_14 : decode b_La_variable 14 = .ok (.iconst 1, 1) := by decide +kernel
theorem d_La_variable_15 : decode b_La_variable 15 = .ok (.ireturn, 1) := by decide +kernel
theorem d_La_variable_16 : decode b_La_variable 16 = .ok (.iconst 0, 1) := by decide +kernel
theorem d_La_variable_17 : decode b_La_variable 17 = .ok (.ireturn, 1) := by decide +kernel
theorem d_La_gathered_0 : decode b_La_gathered 0 = .ok (.aload 4, 2) := by decide +kernel
theorem d_La_gathered_2 : decode b_La_gathered 2 = .ok (.iconst 0, 1) := by decide +kernel
theorem d_La_gathered_3 : decode b_La_gathered 3 = .ok (.aload_n 0, 1) := by decide +kernel
theorem d_La_gathered_4 : decode b_La_gathered 4 = .ok (.iload_n 1, 1) := by decide +kernel
theorem d_La_gathered_5 : decode b_La_gathered 5 = .ok (.iload_n 2, 1) := by decide +kernel
theorem d_La_gathered_6 : decode b_La_gathered 6 = .ok (.iload_n 3, 1) := by decide +kernel
theorem d_La_gathered_7 : decode b_La_gathered 7 = .ok (.invokevirtual 38, 3) := by decide +kernel
theorem d_La_gathered_10 : decode b_La_gathered 10 = .ok (.dastore, 1) := by decide +kernel
theorem d_La_gathered_11 : decode b_La_gathered 11 = .ok (.goto 11, 3) := by decide +kernel
theorem d_La_gathered_14 : decode b_La_gathered 14 = .ok (.astore 5, 2) := by decide +kernel
theorem d_La_gathered_16 : decode b_La_gathered 16 = .ok (.iconst 1, 1) := by decide +kernel
theorem d_La_gathered_17 : decode b_La_gathered 17 = .ok (.ireturn, 1) := by decide +kernel
theorem d_La_gathered_18 : decode b_La_gathered 18 = .ok (.astore 5, 2) := by decide +kernel
theorem d_La_gathered_20 : decode b_La_gathered 20 = .ok (.iconst 2, 1) := by decide +kernel
theorem d_La_gathered_21 : decode b_La_gathered 21 = .ok (.ireturn, 1) := by decide +kernel
theorem d_La_gathered_22 : decode b_La_gathered 22 = .ok (.iconst 0, 1) := by decide +kernel
theorem d_La_gathered_23 : decode b_La_gathered 23 = .ok (.ireturn, 1) := by decide +kernel
theorem d_La_many_0 : decode b_La_many 0 = .ok (.aload 4, 2) := by decide +kernel
theorem d_La_many_2 : decode b_La_many 2 = .ok (.iconst 0, 1) := by decide +kernel
theorem d_La_many_3 : decode b_La_many 3 = .ok (.aload_n 0, 1) := by decide +kernel
theorem d_La_many_4 : decode b_La_many 4 = .ok (.iload_n 1, 1) := by decide +kernel
theorem d_La_many_5 : decode b_La_many 5 = .ok (.iload_n 2, 1) := by decide +kernel
theorem d_La_many_6 : decode b_La_many 6 = .ok (.iload_n 3, 1) := by decide +kernel
theorem d_La_many_7 : decode b_La_many 7 = .ok (.invokevirtual 42, 3) := by decide +kernel
theorem d_La_many_10 : decode b_La_many 10 = .ok (.i2l, 1) := by decide +kernel
theorem d_La_many_11 : decode b_La_many 11 = .ok (.lastore, 1) := by decide +kernel
theorem d_La_many_12 : decode b_La_many 12 = .ok (.goto 11, 3) := by decide +kernel
theorem d_La_many_15 : decode b_La_many 15 = .ok (.astore 5, 2) := by decide +kernel
theorem d_La_many_17 : decode b_La_many 17 = .ok (.iconst 1, 1) := by decide +kernel
theorem d_La_many_18 : decode b_La_many 18 = .ok (.ireturn, 1) := by decide +kernel
theorem d_La_many_19 : decode b_La_many 19 = .ok (.astore 5, 2) := by decide +kernel
theorem d_La_many_21 : decode b_La_many 21 = .ok (.iconst 2, 1) := by decide +kernel
theorem d_La_many_22 : decode b_La_many 22 = .ok (.ireturn, 1) := by decide +kernel
theorem d_La_many_23 : decode b_La_many 23 = .ok (.iconst 0, 1) := by decide +kernel
theorem d_La_many_24 : decode b_La_many 24 = .ok (.ireturn, 1) := by decide +kernel
theorem d_La_record_0 : decode b_La_record 0 = .ok (.aload_n 1, 1) := by decide +kernel
theorem d_La_record_1 : decode b_La_record 1 = .ok (.iconst 0, 1) := by decide +kernel
theorem d_La_record_2 : decode b_La_record 2 = .ok (.aload_n 0, 1) := by decide +kernel
theorem d_La_record_3 : decode b_La_record 3 = .ok (.invokevirtual 46, 3) := by decide +kernel
theorem d_La_record_6 : decode b_La_record 6 = .ok (.dastore, 1) := by decide +kernel
theorem d_La_record_7 : decode b_La_record 7 = .ok (.goto 6, 3) := by decide +kernel
theorem d_La_record_10 : decode b_La_record 10 = .ok (.astore_n 2, 1) := by decide +kernel
theorem d_La_record_11 : decode b_La_record 11 = .ok (.iconst 1, 1) := by decide +kernel
theorem d_La_record_12 : decode b_La_record 12 = .ok (.ireturn, 1) := by decide +kernel
theorem d_La_record_13 : decode b_La_record 13 = .ok (.iconst 0, 1) := by decide +kernel
theorem d_La_record_14 : decode b_La_record 14 = .ok (.ireturn, 1) := by decide +kernel
theorem d_La_law_0 : decode b_La_law 0 = .ok (.new 8, 3) := by decide +kernel
theorem d_La_law_3 : decode b_La_law 3 = .ok (.dup, 1) := by decide +kernel
theorem d_La_law_4 : decode b_La_law 4 = .ok (.invokespecial 50, 3) := by decide +kernel
theorem d_La_law_7 : decode b_La_law 7 = .ok (.astore_n 1, 1) := by decide +kernel
theorem d_La_law_8 : decode b_La_law 8 = .ok (.new 51, 3) := by decide +kernel
theorem d_La_law_11 : decode b_La_law 11 = .ok (.dup, 1) := by decide +kernel
theorem d_La_law_12 : decode b_La_law 12 = .ok (.invokespecial 53, 3) := by decide +kernel
theorem d_La_law_15 : decode b_La_law 15 = .ok (.astore_n 2, 1) := by decide +kernel
theorem d_La_law_16 : decode b_La_law 16 = .ok (.iconst 1, 1) := by decide +kernel
theorem d_La_law_17 : decode b_La_law 17 = .ok (.newarray .long, 2) := by decide +kernel
theorem d_La_law_19 : decode b_La_law 19 = .ok (.astore_n 3, 1) := by decide +kernel
theorem d_La_law_20 : decode b_La_law 20 = .ok (.iconst 1, 1) := by decide +kernel
theorem d_La_law_21 : decode b_La_law 21 = .ok (.newarray .double, 2) := by decide +kernel
theorem d_La_law_23 : decode b_La_law 23 = .ok (.astore 4, 2) := by decide +kernel
theorem d_La_law_25 : decode b_La_law 25 = .ok (.iconst 0, 1) := by decide +kernel
theorem d_La_law_26 : decode b_La_law 26 = .ok (.istore 5, 2) := by decide +kernel
theorem d_La_law_28 : decode b_La_law 28 = .ok (.iload 5, 2) := by decide +kernel
theorem d_La_law_30 : decode b_La_law 30 = .ok (.aload_n 0, 1) := by decide +kernel
theorem d_La_law_31 : decode b_La_law 31 = .ok (.arraylength, 1) := by decide +kernel
theorem d_La_law_32 : decode b_La_law 32 = .ok (.bipush 7, 2) := by decide +kernel
theorem d_La_law_34 : decode b_La_law 34 = .ok (.isub, 1) := by decide +kernel
theorem d_La_law_35 : decode b_La_law 35 = .ok (.if_icmp .gt 879, 3) := by decide +kernel
theorem d_La_law_38 : decode b_La_law 38 = .ok (.aload_n 0, 1) := by decide +kernel
theorem d_La_law_39 : decode b_La_law 39 = .ok (.iload 5, 2) := by decide +kernel
theorem d_La_law_41 : decode b_La_law 41 = .ok (.iaload, 1) := by decide +kernel
theorem d_La_law_42 : decode b_La_law 42 = .ok (.bipush 15, 2) := by decide +kernel
theorem d_La_law_44 : decode b_La_law 44 = .ok (.iand, 1) := by decide +kernel
theorem d_La_law_45 : decode b_La_law 45 = .ok (.tableswitch 863 0 9 #[55, 143, 199, 283, 447, 503, 592, 693, 773, 838], 55) := by decide +kernel
theorem d_La_law_100 : decode b_La_law 100 = .ok (.aload_n 1, 1) := by decide +kernel
theorem d_La_law_101 : decode b_La_law 101 = .ok (.aload_n 0, 1) := by decide +kernel
theorem d_La_law_102 : decode b_La_law 102 = .ok (.iload 5, 2) := by decide +kernel
theorem d_La_law_104 : decode b_La_law 104 = .ok (.iconst 1, 1) := by decide +kernel
theorem d_La_law_105 : decode b_La_law 105 = .ok (.iadd, 1) := by decide +kernel
theorem d_La_law_106 : decode b_La_law 106 = .ok (.iaload, 1) := by decide +kernel
theorem d_La_law_107 : decode b_La_law 107 = .ok (.i2l, 1) := by decide +kernel
theorem d_La_law_108 : decode b_La_law 108 = .ok (.bipush 32, 2) := by decide +kernel
theorem d_La_law_110 : decode b_La_law 110 = .ok (.lshl, 1) := by decide +kernel
theorem d_La_law_111 : decode b_La_law 111 = .ok (.aload_n 0, 1) := by decide +kernel
theorem d_La_law_112 : decode b_La_law 112 = .ok (.iload 5, 2) := by decide +kernel
theorem d_La_law_114 : decode b_La_law 114 = .ok (.iconst 2, 1) := by decide +kernel
theorem d_La_law_115 : decode b_La_law 115 = .ok (.iadd, 1) := by decide +kernel
theorem d_La_law_116 : decode b_La_law 116 = .ok (.iaload, 1) := by decide +kernel
theorem d_La_law_117 : decode b_La_law 117 = .ok (.i2l, 1) := by decide +kernel
theorem d_La_law_118 : decode b_La_law 118 = .ok (.ldc2_w 54, 3) := by decide +kernel
theorem d_La_law_121 : decode b_La_law 121 = .ok (.land, 1) := by decide +kernel
theorem d_La_law_122 : decode b_La_law 122 = .ok (.lor, 1) := by decide +kernel
theorem d_La_law_123 : decode b_La_law 123 = .ok (.aload_n 3, 1) := by decide +kernel
theorem d_La_law_124 : decode b_La_law 124 = .ok (.invokestatic 56, 3) := by decide +kernel
theorem d_La_law_127 : decode b_La_law 127 = .ok (.istore 6, 2) := by decide +kernel
theorem d_La_law_129 : decode b_La_law 129 = .ok (.aload_n 2, 1) := by decide +kernel
theorem d_La_law_130 : decode b_La_law 130 = .ok (.aload_n 0, 1) := by decide +kernel
theorem d_La_law_131 : decode b_La_law 131 = .ok (.iload 5, 2) := by decide +kernel
theorem d_La_law_133 : decode b_La_law 133 = .ok (.iconst 1, 1) := by decide +kernel
theorem d_La_law_134 : decode b_La_law 134 = .ok (.iadd, 1) := by decide +kernel
theorem d_La_law_135 : decode b_La_law 135 = .ok (.iaload, 1) := by decide +kernel
theorem d_La_law_136 : decode b_La_law 136 = .ok (.i2l, 1) := by decide +kernel
theorem d_La_law_137 : decode b_La_law 137 = .ok (.bipush 32, 2) := by decide +kernel
theorem d_La_law_139 : decode b_La_law 139 = .ok (.lshl, 1) := by decide +kernel
theorem d_La_law_140 : decode b_La_law 140 = .ok (.aload_n 0, 1) := by decide +kernel
theorem d_La_law_141 : decode b_La_law 141 = .ok (.iload 5, 2) := by decide +kernel
theorem d_La_law_143 : decode b_La_law 143 = .ok (.iconst 2, 1) := by decide +kernel
theorem d_La_law_144 : decode b_La_law 144 = .ok (.iadd, 1) := by decide +kernel
theorem d_La_law_145 : decode b_La_law 145 = .ok (.iaload, 1) := by decide +kernel
theorem d_La_law_146 : decode b_La_law 146 = .ok (.i2l, 1) := by decide +kernel
theorem d_La_law_147 : decode b_La_law 147 = .ok (.ldc2_w 54, 3) := by decide +kernel
theorem d_La_law_150 : decode b_La_law 150 = .ok (.land, 1) := by decide +kernel
theorem d_La_law_151 : decode b_La_law 151 = .ok (.lor, 1) := by decide +kernel
theorem d_La_law_152 : decode b_La_law 152 = .ok (.invokevirtual 61, 3) := by decide +kernel
theorem d_La_law_155 : decode b_La_law 155 = .ok (.istore 7, 2) := by decide +kernel
theorem d_La_law_157 : decode b_La_law 157 = .ok (.aload_n 2, 1) := by decide +kernel
theorem d_La_law_158 : decode b_La_law 158 = .ok (.invokevirtual 62, 3) := by decide +kernel
theorem d_La_law_161 : decode b_La_law 161 = .ok (.iload 6, 2) := by decide +kernel
theorem d_La_law_163 : decode b_La_law 163 = .ok (.if_icmp .eq 5, 3) := by decide +kernel
theorem d_La_law_166 : decode b_La_law 166 = .ok (.iconst 0, 1) := by decide +kernel
theorem d_La_law_167 : decode b_La_law 167 = .ok (.ireturn, 1) := by decide +kernel
theorem d_La_law_168 : decode b_La_law 168 = .ok (.iload 6, 2) := by decide +kernel
theorem d_La_law_170 : decode b_La_law 170 = .ok (.ifCond .ne 15, 3) := by decide +kernel
theorem d_La_law_173 : decode b_La_law 173 = .ok (.aload_n 3, 1) := by decide +kernel
theorem d_La_law_174 : decode b_La_law 174 = .ok (.iconst 0, 1) := by decide +kernel
theorem d_La_law_175 : decode b_La_law 175 = .ok (.laload, 1) := by decide +kernel
theorem d_La_law_176 : decode b_La_law 176 = .ok (.iload 7, 2) := by decide +kernel
theorem d_La_law_178 : decode b_La_law 178 = .ok (.i2l, 1) := by decide +kernel
theorem d_La_law_179 : decode b_La_law 179 = .ok (.lcmp, 1) := by decide +kernel
theorem d_La_law_180 : decode b_La_law 180 = .ok (.ifCond .eq 5, 3) := by decide +kernel
theorem d_La_law_183 : decode b_La_law 183 = .ok (.iconst 0, 1) := by decide +kernel
theorem d_La_law_184 : decode b_La_law 184 = .ok (.ireturn, 1) := by decide +kernel
theorem d_La_law_185 : decode b_La_law 185 = .ok (.goto 723, 3) := by decide +kernel
theorem d_La_law_188 : decode b_La_law 188 = .ok (.aload_n 1, 1) := by decide +kernel
theorem d_La_law_189 : decode b_La_law 189 = .ok (.aload_n 0, 1) := by decide +kernel
theorem d_La_law_190 : decode b_La_law 190 = .ok (.iload 5, 2) := by decide +kernel
theorem d_La_law_192 : decode b_La_law 192 = .ok (.iconst 1, 1) := by decide +kernel
theorem d_La_law_193 : decode b_La_law 193 = .ok (.iadd, 1) := by decide +kernel
theorem d_La_law_194 : decode b_La_law 194 = .ok (.iaload, 1) := by decide +kernel
theorem d_La_law_195 : decode b_La_law 195 = .ok (.aload_n 3, 1) := by decide +kernel
theorem d_La_law_196 : decode b_La_law 196 = .ok (.invokestatic 66, 3) := by decide +kernel
theorem d_La_law_199 : decode b_La_law 199 = .ok (.istore 6, 2) := by decide +kernel
theorem d_La_law_201 : decode b_La_law 201 = .ok (.aload_n 2, 1) := by decide +kernel
theorem d_La_law_202 : decode b_La_law 202 = .ok (.aload_n 0, 1) := by decide +kernel
theorem d_La_law_203 : decode b_La_law 203 = .ok (.iload 5, 2) := by decide +kernel
theorem d_La_law_205 : decode b_La_law 205 = .ok (.iconst 1, 1) := by decide +kernel
theorem d_La_law_206 : decode b_La_law 206 = .ok (.iadd, 1) := by decide +kernel
theorem d_La_law_207 : decode b_La_law 207 = .ok (.iaload, 1) := by decide +kernel
theorem d_La_law_208 : decode b_La_law 208 = .ok (.invokevirtual 69, 3) := by decide +kernel
theorem d_La_law_211 : decode b_La_law 211 = .ok (.istore 7, 2) := by decide +kernel
theorem d_La_law_213 : decode b_La_law 213 = .ok (.aload_n 2, 1) := by decide +kernel
theorem d_La_law_214 : decode b_La_law 214 = .ok (.invokevirtual 62, 3) := by decide +kernel
theorem d_La_law_217 : decode b_La_law 217 = .ok (.iload 6, 2) := by decide +kernel
theorem d_La_law_219 : decode b_La_law 219 = .ok (.if_icmp .eq 5, 3) := by decide +kernel
theorem d_La_law_222 : decode b_La_law 222 = .ok (.iconst 0, 1) := by decide +kernel
theorem d_La_law_223 : decode b_La_law 223 = .ok (.ireturn, 1) := by decide +kernel
theorem d_La_law_224 : decode b_La_law 224 = .ok (.iload 6, 2) := by decide +kernel
theorem d_La_law_226 : decode b_La_law 226 = .ok (.ifCond .ne 15, 3) := by decide +kernel
theorem d_La_law_229 : decode b_La_law 229 = .ok (.aload_n 3, 1) := by decide +kernel
theorem d_La_law_230 : decode b_La_law 230 = .ok (.iconst 0, 1) := by decide +kernel
theorem d_La_law_231 : decode b_La_law 231 = .ok (.laload, 1) := by decide +kernel
theorem d_La_law_232 : decode b_La_law 232 = .ok (.iload 7, 2) := by decide +kernel
theorem d_La_law_234 : decode b_La_law 234 = .ok (.i2l, 1) := by decide +kernel
theorem d_La_law_235 : decode b_La_law 235 = .ok (.lcmp, 1) := by decide +kernel
theorem d_La_law_236 : decode b_La_law 236 = .ok (.ifCond .eq 5, 3) := by decide +kernel
theorem d_La_law_239 : decode b_La_law 239 = .ok (.iconst 0, 1) := by decide +kernel
theorem d_La_law_240 : decode b_La_law 240 = .ok (.ireturn, 1) := by decide +kernel
theorem d_La_law_241 : decode b_La_law 241 = .ok (.goto 667, 3) := by decide +kernel
theorem d_La_law_244 : decode b_La_law 244 = .ok (.aload_n 1, 1) := by decide +kernel
theorem d_La_law_245 : decode b_La_law 245 = .ok (.aload_n 0, 1) := by decide +kernel
theorem d_La_law_246 : decode b_La_law 246 = .ok (.iload 5, 2) := by decide +kernel
theorem d_La_law_248 : decode b_La_law 248 = .ok (.iconst 1, 1) := by decide +kernel
theorem d_La_law_249 : decode b_La_law 249 = .ok (.iadd, 1) := by decide +kernel
theorem d_La_law_250 : decode b_La_law 250 = .ok (.iaload, 1) := by decide +kernel
theorem d_La_law_251 : decode b_La_law 251 = .ok (.aload_n 0, 1) := by decide +kernel
theorem d_La_law_252 : decode b_La_law 252 = .ok (.iload 5, 2) := by decide +kernel
theorem d_La_law_254 : decode b_La_law 254 = .ok (.iconst 2, 1) := by decide +kernel
theorem d_La_law_255 : decode b_La_law 255 = .ok (.iadd, 1) := by decide +kernel
theorem d_La_law_256 : decode b_La_law 256 = .ok (.iaload, 1) := by decide +kernel
theorem d_La_law_257 : decode b_La_law 257 = .ok (.ifCond .eq 7, 3) := by decide +kernel
theorem d_La_law_260 : decode b_La_law 260 = .ok (.iconst 1, 1) := by decide +kernel
theorem d_La_law_261 : decode b_La_law 261 = .ok (.goto 4, 3) := by decide +kernel
theorem d_La_law_264 : decode b_La_law 264 = .ok (.iconst 0, 1) := by decide +kernel
theorem d_La_law_265 : decode b_La_law 265 = .ok (.aload_n 3, 1) := by decide +kernel
theorem d_La_law_266 : decode b_La_law 266 = .ok (.invokestatic 70, 3) := by decide +kernel
theorem d_La_law_269 : decode b_La_law 269 = .ok (.istore 6, 2) := by decide +kernel
theorem d_La_law_271 : decode b_La_law 271 = .ok (.aload_n 2, 1) := by decide +kernel
theorem d_La_law_272 : decode b_La_law 272 = .ok (.aload_n 0, 1) := by decide +kernel
theorem d_La_law_273 : decode b_La_law 273 = .ok (.iload 5, 2) := by decide +kernel
theorem d_La_law_275 : decode b_La_law 275 = .ok (.iconst 1, 1) := by decide +kernel
theorem d_La_law_276 : decode b_La_law 276 = .ok (.iadd, 1) := by decide +kernel
theorem d_La_law_277 : decode b_La_law 277 = .ok (.iaload, 1) := by decide +kernel
theorem d_La_law_278 : decode b_La_law 278 = .ok (.aload_n 0, 1) := by decide +kernel
theorem d_La_law_279 : decode b_La_law 279 = .ok (.iload 5, 2) := by decide +kernel
theorem d_La_law_281 : decode b_La_law 281 = .ok (.iconst 2, 1) := by decide +kernel
theorem d_La_law_282 : decode b_La_law 282 = .ok (.iadd, 1) := by decide +kernel
theorem d_La_law_283 : decode b_La_law 283 = .ok (.iaload, 1) := by decide +kernel
theorem d_La_law_284 : decode b_La_law 284 = .ok (.ifCond .eq 7, 3) := by decide +kernel
theorem d_La_law_287 : decode b_La_law 287 = .ok (.iconst 1, 1) := by decide +kernel
theorem d_La_law_288 : decode b_La_law 288 = .ok (.goto 4, 3) := by decide +kernel
theorem d_La_law_291 : decode b_La_law 291 = .ok (.iconst 0, 1) := by decide +kernel
theorem d_La_law_292 : decode b_La_law 292 = .ok (.invokevirtual 73, 3) := by decide +kernel
theorem d_La_law_295 : decode b_La_law 295 = .ok (.istore 7, 2) := by decide +kernel
theorem d_La_law_297 : decode b_La_law 297 = .ok (.aload_n 2, 1) := by decide +kernel
theorem d_La_law_298 : decode b_La_law 298 = .ok (.invokevirtual 62, 3) := by decide +kernel
theorem d_La_law_301 : decode b_La_law 301 = .ok (.iload 6, 2) := by decide +kernel
theorem d_La_law_303 : decode b_La_law 303 = .ok (.if_icmp .eq 5, 3) := by decide +kernel
theorem d_La_law_306 : decode b_La_law 306 = .ok (.iconst 0, 1) := by decide +kernel
theorem d_La_law_307 : decode b_La_law 307 = .ok (.ireturn, 1) := by decide +kernel
theorem d_La_law_308 : decode b_La_law 308 = .ok (.iload 6, 2) := by decide +kernel
theorem d_La_law_310 : decode b_La_law 310 = .ok (.ifCond .ne 15, 3) := by decide +kernel
theorem d_La_law_313 : decode b_La_law 313 = .ok (.aload_n 3, 1) := by decide +kernel
theorem d_La_law_314 : decode b_La_law 314 = .ok (.iconst 0, 1) := by decide +kernel
theorem d_La_law_315 : decode b_La_law 315 = .ok (.laload, 1) := by decide +kernel
theorem d_La_law_316 : decode b_La_law 316 = .ok (.iload 7, 2) := by decide +kernel
theorem d_La_law_318 : decode b_La_law 318 = .ok (.i2l, 1) := by decide +kernel
theorem d_La_law_319 : decode b_La_law 319 = .ok (.lcmp, 1) := by decide +kernel
theorem d_La_law_320 : decode b_La_law 320 = .ok (.ifCond .eq 5, 3) := by decide +kernel
theorem d_La_law_323 : decode b_La_law 323 = .ok (.iconst 0, 1) := by decide +kernel
theorem d_La_law_324 : decode b_La_law 324 = .ok (.ireturn, 1) := by decide +kernel
theorem d_La_law_325 : decode b_La_law 325 = .ok (.goto 583, 3) := by decide +kernel
theorem d_La_law_328 : decode b_La_law 328 = .ok (.aload_n 1, 1) := by decide +kernel
theorem d_La_law_329 : decode b_La_law 329 = .ok (.aload_n 0, 1) := by decide +kernel
theorem d_La_law_330 : decode b_La_law 330 = .ok (.iload 5, 2) := by decide +kernel
theorem d_La_law_332 : decode b_La_law 332 = .ok (.iconst 1, 1) := by decide +kernel
theorem d_La_law_333 : decode b_La_law 333 = .ok (.iadd, 1) := by decide +kernel
theorem d_La_law_334 : decode b_La_law 334 = .ok (.iaload, 1) := by decide +kernel
theorem d_La_law_335 : decode b_La_law 335 = .ok (.aload_n 0, 1) := by decide +kernel
theorem d_La_law_336 : decode b_La_law 336 = .ok (.iload 5, 2) := by decide +kernel
theorem d_La_law_338 : decode b_La_law 338 = .ok (.iconst 2, 1) := by decide +kernel
theorem d_La_law_339 : decode b_La_law 339 = .ok (.iadd, 1) := by decide +kernel
theorem d_La_law_340 : decode b_La_law 340 = .ok (.iaload, 1) := by decide +kernel
theorem d_La_law_341 : decode b_La_law 341 = .ok (.ifCond .eq 7, 3) := by decide +kernel
theorem d_La_law_344 : decode b_La_law 344 = .ok (.iconst 1, 1) := by decide +kernel
theorem d_La_law_345 : decode b_La_law 345 = .ok (.goto 4, 3) := by decide +kernel
theorem d_La_law_348 : decode b_La_law 348 = .ok (.iconst 0, 1) := by decide +kernel
theorem d_La_law_349 : decode b_La_law 349 = .ok (.aload_n 0, 1) := by decide +kernel
theorem d_La_law_350 : decode b_La_law 350 = .ok (.iload 5, 2) := by decide +kernel
theorem d_La_law_352 : decode b_La_law 352 = .ok (.iconst 3, 1) := by decide +kernel
theorem d_La_law_353 : decode b_La_law 353 = .ok (.iadd, 1) := by decide +kernel
theorem d_La_law_354 : decode b_La_law 354 = .ok (.iaload, 1) := by decide +kernel
theorem d_La_law_355 : decode b_La_law 355 = .ok (.aload_n 0, 1) := by decide +kernel
theorem d_La_law_356 : decode b_La_law 356 = .ok (.iload 5, 2) := by decide +kernel
theorem d_La_law_358 : decode b_La_law 358 = .ok (.iconst 4, 1) := by decide +kernel
theorem d_La_law_359 : decode b_La_law 359 = .ok (.iadd, 1) := by decide +kernel
theorem d_La_law_360 : decode b_La_law 360 = .ok (.iaload, 1) := by decide +kernel
theorem d_La_law_361 : decode b_La_law 361 = .ok (.i2d, 1) := by decide +kernel
theorem d_La_law_362 : decode b_La_law 362 = .ok (.ldc2_w 74, 3) := by decide +kernel
theorem d_La_law_365 : decode b_La_law 365 = .ok (.dmul, 1) := by decide +kernel
theorem d_La_law_366 : decode b_La_law 366 = .ok (.aload_n 0, 1) := by decide +kernel
theorem d_La_law_367 : decode b_La_law 367 = .ok (.iload 5, 2) := by decide +kernel
theorem d_La_law_369 : decode b_La_law 369 = .ok (.iconst 5, 1) := by decide +kernel
theorem d_La_law_370 : decode b_La_law 370 = .ok (.iadd, 1) := by decide +kernel
theorem d_La_law_371 : decode b_La_law 371 = .ok (.iaload, 1) := by decide +kernel
theorem d_La_law_372 : decode b_La_law 372 = .ok (.i2d, 1) := by decide +kernel
theorem d_La_law_373 : decode b_La_law 373 = .ok (.ldc2_w 74, 3) := by decide +kernel
theorem d_La_law_376 : decode b_La_law 376 = .ok (.dmul, 1) := by decide +kernel
theorem d_La_law_377 : decode b_La_law 377 = .ok (.aload_n 0, 1) := by decide +kernel
theorem d_La_law_378 : decode b_La_law 378 = .ok (.iload 5, 2) := by decide +kernel
theorem d_La_law_380 : decode b_La_law 380 = .ok (.bipush 6, 2) := by decide +kernel
theorem d_La_law_382 : decode b_La_law 382 = .ok (.iadd, 1) := by decide +kernel
theorem d_La_law_383 : decode b_La_law 383 = .ok (.iaload, 1) := by decide +kernel
theorem d_La_law_384 : decode b_La_law 384 = .ok (.i2d, 1) := by decide +kernel
theorem d_La_law_385 : decode b_La_law 385 = .ok (.ldc2_w 74, 3) := by decide +kernel
theorem d_La_law_388 : decode b_La_law 388 = .ok (.dmul, 1) := by decide +kernel
theorem d_La_law_389 : decode b_La_law 389 = .ok (.aload_n 3, 1) := by decide +kernel
theorem d_La_law_390 : decode b_La_law 390 = .ok (.invokestatic 76, 3) := by decide +kernel
theorem d_La_law_393 : decode b_La_law 393 = .ok (.istore 6, 2) := by decide +kernel
theorem d_La_law_395 : decode b_La_law 395 = .ok (.aload_n 2, 1) := by decide +kernel
theorem d_La_law_396 : decode b_La_law 396 = .ok (.aload_n 0, 1) := by decide +kernel
theorem d_La_law_397 : decode b_La_law 397 = .ok (.iload 5, 2) := by decide +kernel
theorem d_La_law_399 : decode b_La_law 399 = .ok (.iconst 1, 1) := by decide +kernel
theorem d_La_law_400 : decode b_La_law 400 = .ok (.iadd, 1) := by decide +kernel
theorem d_La_law_401 : decode b_La_law 401 = .ok (.iaload, 1) := by decide +kernel
theorem d_La_law_402 : decode b_La_law 402 = .ok (.aload_n 0, 1) := by decide +kernel
theorem d_La_law_403 : decode b_La_law 403 = .ok (.iload 5, 2) := by decide +kernel
theorem d_La_law_405 : decode b_La_law 405 = .ok (.iconst 2, 1) := by decide +kernel
theorem d_La_law_406 : decode b_La_law 406 = .ok (.iadd, 1) := by decide +kernel
theorem d_La_law_407 : decode b_La_law 407 = .ok (.iaload, 1) := by decide +kernel
theorem d_La_law_408 : decode b_La_law 408 = .ok (.ifCond .eq 7, 3) := by decide +kernel
theorem d_La_law_411 : decode b_La_law 411 = .ok (.iconst 1, 1) := by decide +kernel
theorem d_La_law_412 : decode b_La_law 412 = .ok (.goto 4, 3) := by decide +kernel
theorem d_La_law_415 : decode b_La_law 415 = .ok (.iconst 0, 1) := by decide +kernel
theorem d_La_law_416 : decode b_La_law 416 = .ok (.aload_n 0, 1) := by decide +kernel
theorem d_La_law_417 : decode b_La_law 417 = .ok (.iload 5, 2) := by decide +kernel
theorem d_La_law_419 : decode b_La_law 419 = .ok (.iconst 3, 1) := by decide +kernel
theorem d_La_law_420 : decode b_La_law 420 = .ok (.iadd, 1) := by decide +kernel
theorem d_La_law_421 : decode b_La_law 421 = .ok (.iaload, 1) := by decide +kernel
theorem d_La_law_422 : decode b_La_law 422 = .ok (.aload_n 0, 1) := by decide +kernel
theorem d_La_law_423 : decode b_La_law 423 = .ok (.iload 5, 2) := by decide +kernel
theorem d_La_law_425 : decode b_La_law 425 = .ok (.iconst 4, 1) := by decide +kernel
theorem d_La_law_426 : decode b_La_law 426 = .ok (.iadd, 1) := by decide +kernel
theorem d_La_law_427 : decode b_La_law 427 = .ok (.iaload, 1) := by decide +kernel
theorem d_La_law_428 : decode b_La_law 428 = .ok (.i2d, 1) := by decide +kernel
theorem d_La_law_429 : decode b_La_law 429 = .ok (.ldc2_w 74, 3) := by decide +kernel
theorem d_La_law_432 : decode b_La_law 432 = .ok (.dmul, 1) := by decide +kernel
theorem d_La_law_433 : decode b_La_law 433 = .ok (.aload_n 0, 1) := by decide +kernel
theorem d_La_law_434 : decode b_La_law 434 = .ok (.iload 5, 2) := by decide +kernel
theorem d_La_law_436 : decode b_La_law 436 = .ok (.iconst 5, 1) := by decide +kernel
theorem d_La_law_437 : decode b_La_law 437 = .ok (.iadd, 1) := by decide +kernel
theorem d_La_law_438 : decode b_La_law 438 = .ok (.iaload, 1) := by decide +kernel
theorem d_La_law_439 : decode b_La_law 439 = .ok (.i2d, 1) := by decide +kernel
theorem d_La_law_440 : decode b_La_law 440 = .ok (.ldc2_w 74, 3) := by decide +kernel
theorem d_La_law_443 : decode b_La_law 443 = .ok (.dmul, 1) := by decide +kernel
theorem d_La_law_444 : decode b_La_law 444 = .ok (.aload_n 0, 1) := by decide +kernel
theorem d_La_law_445 : decode b_La_law 445 = .ok (.iload 5, 2) := by decide +kernel
theorem d_La_law_447 : decode b_La_law 447 = .ok (.bipush 6, 2) := by decide +kernel
theorem d_La_law_449 : decode b_La_law 449 = .ok (.iadd, 1) := by decide +kernel
theorem d_La_law_450 : decode b_La_law 450 = .ok (.iaload, 1) := by decide +kernel
theorem d_La_law_451 : decode b_La_law 451 = .ok (.i2d, 1) := by decide +kernel
theorem d_La_law_452 : decode b_La_law 452 = .ok (.ldc2_w 74, 3) := by decide +kernel
theorem d_La_law_455 : decode b_La_law 455 = .ok (.dmul, 1) := by decide +kernel
theorem d_La_law_456 : decode b_La_law 456 = .ok (.invokevirtual 79, 3) := by decide +kernel
theorem d_La_law_459 : decode b_La_law 459 = .ok (.istore 7, 2) := by decide +kernel
theorem d_La_law_461 : decode b_La_law 461 = .ok (.aload_n 2, 1) := by decide +kernel
theorem d_La_law_462 : decode b_La_law 462 = .ok (.invokevirtual 62, 3) := by decide +kernel
theorem d_La_law_465 : decode b_La_law 465 = .ok (.iload 6, 2) := by decide +kernel
theorem d_La_law_467 : decode b_La_law 467 = .ok (.if_icmp .eq 5, 3) := by decide +kernel
theorem d_La_law_470 : decode b_La_law 470 = .ok (.iconst 0, 1) := by decide +kernel
theorem d_La_law_471 : decode b_La_law 471 = .ok (.ireturn, 1) := by decide +kernel
theorem d_La_law_472 : decode b_La_law 472 = .ok (.iload 6, 2) := by decide +kernel
theorem d_La_law_474 : decode b_La_law 474 = .ok (.ifCond .ne 15, 3) := by decide +kernel
theorem d_La_law_477 : decode b_La_law 477 = .ok (.aload_n 3, 1) := by decide +kernel
theorem d_La_law_478 : decode b_La_law 478 = .ok (.iconst 0, 1) := by decide +kernel
theorem d_La_law_479 : decode b_La_law 479 = .ok (.laload, 1) := by decide +kernel
theorem d_La_law_480 : decode b_La_law 480 = .ok (.iload 7, 2) := by decide +kernel
theorem d_La_law_482 : decode b_La_law 482 = .ok (.i2l, 1) := by decide +kernel
theorem d_La_law_483 : decode b_La_law 483 = .ok (.lcmp, 1) := by decide +kernel
theorem d_La_law_484 : decode b_La_law 484 = .ok (.ifCond .eq 5, 3) := by decide +kernel
theorem d_La_law_487 : decode b_La_law 487 = .ok (.iconst 0, 1) := by decide +kernel
theorem d_La_law_488 : decode b_La_law 488 = .ok (.ireturn, 1) := by decide +kernel
theorem d_La_law_489 : decode b_La_law 489 = .ok (.goto 419, 3) := by decide +kernel
theorem d_La_law_492 : decode b_La_law 492 = .ok (.aload_n 1, 1) := by decide +kernel
theorem d_La_law_493 : decode b_La_law 493 = .ok (.aload_n 0, 1) := by decide +kernel
theorem d_La_law_494 : decode b_La_law 494 = .ok (.iload 5, 2) := by decide +kernel
theorem d_La_law_496 : decode b_La_law 496 = .ok (.iconst 1, 1) := by decide +kernel
theorem d_La_law_497 : decode b_La_law 497 = .ok (.iadd, 1) := by decide +kernel
theorem d_La_law_498 : decode b_La_law 498 = .ok (.iaload, 1) := by decide +kernel
theorem d_La_law_499 : decode b_La_law 499 = .ok (.aload_n 3, 1) := by decide +kernel
theorem d_La_law_500 : decode b_La_law 500 = .ok (.invokestatic 80, 3) := by decide +kernel
theorem d_La_law_503 : decode b_La_law 503 = .ok (.istore 6, 2) := by decide +kernel
theorem d_La_law_505 : decode b_La_law 505 = .ok (.aload_n 2, 1) := by decide +kernel
theorem d_La_law_506 : decode b_La_law 506 = .ok (.aload_n 0, 1) := by decide +kernel
theorem d_La_law_507 : decode b_La_law 507 = .ok (.iload 5, 2) := by decide +kernel
theorem d_La_law_509 : decode b_La_law 509 = .ok (.iconst 1, 1) := by decide +kernel
theorem d_La_law_510 : decode b_La_law 510 = .ok (.iadd, 1) := by decide +kernel
theorem d_La_law_511 : decode b_La_law 511 = .ok (.iaload, 1) := by decide +kernel
theorem d_La_law_512 : decode b_La_law 512 = .ok (.invokevirtual 82, 3) := by decide +kernel
theorem d_La_law_515 : decode b_La_law 515 = .ok (.istore 7, 2) := by decide +kernel
theorem d_La_law_517 : decode b_La_law 517 = .ok (.aload_n 2, 1) := by decide +kernel
theorem d_La_law_518 : decode b_La_law 518 = .ok (.invokevirtual 62, 3) := by decide +kernel
theorem d_La_law_521 : decode b_La_law 521 = .ok (.iload 6, 2) := by decide +kernel
theorem d_La_law_523 : decode b_La_law 523 = .ok (.if_icmp .eq 5, 3) := by decide +kernel
theorem d_La_law_526 : decode b_La_law 526 = .ok (.iconst 0, 1) := by decide +kernel
theorem d_La_law_527 : decode b_La_law 527 = .ok (.ireturn, 1) := by decide +kernel
theorem d_La_law_528 : decode b_La_law 528 = .ok (.iload 6, 2) := by decide +kernel
theorem d_La_law_530 : decode b_La_law 530 = .ok (.ifCond .ne 15, 3) := by decide +kernel
theorem d_La_law_533 : decode b_La_law 533 = .ok (.aload_n 3, 1) := by decide +kernel
theorem d_La_law_534 : decode b_La_law 534 = .ok (.iconst 0, 1) := by decide +kernel
theorem d_La_law_535 : decode b_La_law 535 = .ok (.laload, 1) := by decide +kernel
theorem d_La_law_536 : decode b_La_law 536 = .ok (.iload 7, 2) := by decide +kernel
theorem d_La_law_538 : decode b_La_law 538 = .ok (.i2l, 1) := by decide +kernel
theorem d_La_law_539 : decode b_La_law 539 = .ok (.lcmp, 1) := by decide +kernel
theorem d_La_law_540 : decode b_La_law 540 = .ok (.ifCond .eq 5, 3) := by decide +kernel
theorem d_La_law_543 : decode b_La_law 543 = .ok (.iconst 0, 1) := by decide +kernel
theorem d_La_law_544 : decode b_La_law 544 = .ok (.ireturn, 1) := by decide +kernel
theorem d_La_law_545 : decode b_La_law 545 = .ok (.goto 363, 3) := by decide +kernel
theorem d_La_law_548 : decode b_La_law 548 = .ok (.aload_n 1, 1) := by decide +kernel
theorem d_La_law_549 : decode b_La_law 549 = .ok (.aload_n 0, 1) := by decide +kernel
theorem d_La_law_550 : decode b_La_law 550 = .ok (.iload 5, 2) := by decide +kernel
theorem d_La_law_552 : decode b_La_law 552 = .ok (.iconst 1, 1) := by decide +kernel
theorem d_La_law_553 : decode b_La_law 553 = .ok (.iadd, 1) := by decide +kernel
theorem d_La_law_554 : decode b_La_law 554 = .ok (.iaload, 1) := by decide +kernel
theorem d_La_law_555 : decode b_La_law 555 = .ok (.aload_n 0, 1) := by decide +kernel
theorem d_La_law_556 : decode b_La_law 556 = .ok (.iload 5, 2) := by decide +kernel
theorem d_La_law_558 : decode b_La_law 558 = .ok (.iconst 2, 1) := by decide +kernel
theorem d_La_law_559 : decode b_La_law 559 = .ok (.iadd, 1) := by decide +kernel
theorem d_La_law_560 : decode b_La_law 560 = .ok (.iaload, 1) := by decide +kernel
theorem d_La_law_561 : decode b_La_law 561 = .ok (.aload 4, 2) := by decide +kernel
theorem d_La_law_563 : decode b_La_law 563 = .ok (.invokestatic 83, 3) := by decide +kernel
theorem d_La_law_566 : decode b_La_law 566 = .ok (.istore 6, 2) := by decide +kernel
theorem d_La_law_568 : decode b_La_law 568 = .ok (.aload_n 2, 1) := by decide +kernel
theorem d_La_law_569 : decode b_La_law 569 = .ok (.aload_n 0, 1) := by decide +kernel
theorem d_La_law_570 : decode b_La_law 570 = .ok (.iload 5, 2) := by decide +kernel
theorem d_La_law_572 : decode b_La_law 572 = .ok (.iconst 1, 1) := by decide +kernel
theorem d_La_law_573 : decode b_La_law 573 = .ok (.iadd, 1) := by decide +kernel
theorem d_La_law_574 : decode b_La_law 574 = .ok (.iaload, 1) := by decide +kernel
theorem d_La_law_575 : decode b_La_law 575 = .ok (.aload_n 0, 1) := by decide +kernel
theorem d_La_law_576 : decode b_La_law 576 = .ok (.iload 5, 2) := by decide +kernel
theorem d_La_law_578 : decode b_La_law 578 = .ok (.iconst 2, 1) := by decide +kernel
theorem d_La_law_579 : decode b_La_law 579 = .ok (.iadd, 1) := by decide +kernel
theorem d_La_law_580 : decode b_La_law 580 = .ok (.iaload, 1) := by decide +kernel
theorem d_La_law_581 : decode b_La_law 581 = .ok (.invokevirtual 86, 3) := by decide +kernel
theorem d_La_law_584 : decode b_La_law 584 = .ok (.dstore 7, 2) := by decide +kernel
theorem d_La_law_586 : decode b_La_law 586 = .ok (.aload_n 2, 1) := by decide +kernel
theorem d_La_law_587 : decode b_La_law 587 = .ok (.invokevirtual 62, 3) := by decide +kernel
theorem d_La_law_590 : decode b_La_law 590 = .ok (.iload 6, 2) := by decide +kernel
theorem d_La_law_592 : decode b_La_law 592 = .ok (.if_icmp .eq 5, 3) := by decide +kernel
theorem d_La_law_595 : decode b_La_law 595 = .ok (.iconst 0, 1) := by decide +kernel
theorem d_La_law_596 : decode b_La_law 596 = .ok (.ireturn, 1) := by decide +kernel
theorem d_La_law_597 : decode b_La_law 597 = .ok (.iload 6, 2) := by decide +kernel
theorem d_La_law_599 : decode b_La_law 599 = .ok (.ifCond .ne 35, 3) := by decide +kernel
theorem d_La_law_602 : decode b_La_law 602 = .ok (.aload 4, 2) := by decide +kernel
theorem d_La_law_604 : decode b_La_law 604 = .ok (.iconst 0, 1) := by decide +kernel
theorem d_La_law_605 : decode b_La_law 605 = .ok (.daload, 1) := by decide +kernel
theorem d_La_law_606 : decode b_La_law 606 = .ok (.dload 7, 2) := by decide +kernel
theorem d_La_law_608 : decode b_La_law 608 = .ok (.dcmp .l, 1) := by decide +kernel
theorem d_La_law_609 : decode b_La_law 609 = .ok (.ifCond .eq 25, 3) := by decide +kernel
theorem d_La_law_612 : decode b_La_law 612 = .ok (.aload 4, 2) := by decide +kernel
theorem d_La_law_614 : decode b_La_law 614 = .ok (.iconst 0, 1) := by decide +kernel
theorem d_La_law_615 : decode b_La_law 615 = .ok (.daload, 1) := by decide +kernel
theorem d_La_law_616 : decode b_La_law 616 = .ok (.aload 4, 2) := by decide +kernel
theorem d_La_law_618 : decode b_La_law 618 = .ok (.iconst 0, 1) := by decide +kernel
theorem d_La_law_619 : decode b_La_law 619 = .ok (.daload, 1) := by decide +kernel
theorem d_La_law_620 : decode b_La_law 620 = .ok (.dcmp .l, 1) := by decide +kernel
theorem d_La_law_621 : decode b_La_law 621 = .ok (.ifCond .eq 11, 3) := by decide +kernel
theorem d_La_law_624 : decode b_La_law 624 = .ok (.dload 7, 2) := by decide +kernel
theorem d_La_law_626 : decode b_La_law 626 = .ok (.dload 7, 2) := by decide +kernel
theorem d_La_law_628 : decode b_La_law 628 = .ok (.dcmp .l, 1) := by decide +kernel
theorem d_La_law_629 : decode b_La_law 629 = .ok (.ifCond .ne 5, 3) := by decide +kernel
theorem d_La_law_632 : decode b_La_law 632 = .ok (.iconst 0, 1) := by decide +kernel
theorem d_La_law_633 : decode b_La_law 633 = .ok (.ireturn, 1) := by decide +kernel
theorem d_La_law_634 : decode b_La_law 634 = .ok (.goto 274, 3) := by decide +kernel
theorem d_La_law_637 : decode b_La_law 637 = .ok (.aload_n 1, 1) := by decide +kernel
theorem d_La_law_638 : decode b_La_law 638 = .ok (.aload_n 0, 1) := by decide +kernel
theorem d_La_law_639 : decode b_La_law 639 = .ok (.iload 5, 2) := by decide +kernel
theorem d_La_law_641 : decode b_La_law 641 = .ok (.iconst 1, 1) := by decide +kernel
theorem d_La_law_642 : decode b_La_law 642 = .ok (.iadd, 1) := by decide +kernel
theorem d_La_law_643 : decode b_La_law 643 = .ok (.iaload, 1) := by decide +kernel
theorem d_La_law_644 : decode b_La_law 644 = .ok (.aload_n 0, 1) := by decide +kernel
theorem d_La_law_645 : decode b_La_law 645 = .ok (.iload 5, 2) := by decide +kernel
theorem d_La_law_647 : decode b_La_law 647 = .ok (.iconst 2, 1) := by decide +kernel
theorem d_La_law_648 : decode b_La_law 648 = .ok (.iadd, 1) := by decide +kernel
theorem d_La_law_649 : decode b_La_law 649 = .ok (.iaload, 1) := by decide +kernel
theorem d_La_law_650 : decode b_La_law 650 = .ok (.aload_n 0, 1) := by decide +kernel
theorem d_La_law_651 : decode b_La_law 651 = .ok (.iload 5, 2) := by decide +kernel
theorem d_La_law_653 : decode b_La_law 653 = .ok (.iconst 3, 1) := by decide +kernel
theorem d_La_law_654 : decode b_La_law 654 = .ok (.iadd, 1) := by decide +kernel
theorem d_La_law_655 : decode b_La_law 655 = .ok (.iaload, 1) := by decide +kernel
theorem d_La_law_656 : decode b_La_law 656 = .ok (.aload 4, 2) := by decide +kernel
theorem d_La_law_658 : decode b_La_law 658 = .ok (.invokestatic 87, 3) := by decide +kernel
theorem d_La_law_661 : decode b_La_law 661 = .ok (.istore 6, 2) := by decide +kernel
theorem d_La_law_663 : decode b_La_law 663 = .ok (.aload_n 2, 1) := by decide +kernel
theorem d_La_law_664 : decode b_La_law 664 = .ok (.aload_n 0, 1) := by decide +kernel
theorem d_La_law_665 : decode b_La_law 665 = .ok (.iload 5, 2) := by decide +kernel
theorem d_La_law_667 : decode b_La_law 667 = .ok (.iconst 1, 1) := by decide +kernel
theorem d_La_law_668 : decode b_La_law 668 = .ok (.iadd, 1) := by decide +kernel
theorem d_La_law_669 : decode b_La_law 669 = .ok (.iaload, 1) := by decide +kernel
theorem d_La_law_670 : decode b_La_law 670 = .ok (.aload_n 0, 1) := by decide +kernel
theorem d_La_law_671 : decode b_La_law 671 = .ok (.iload 5, 2) := by decide +kernel
theorem d_La_law_673 : decode b_La_law 673 = .ok (.iconst 2, 1) := by decide +kernel
theorem d_La_law_674 : decode b_La_law 674 = .ok (.iadd, 1) := by decide +kernel
theorem d_La_law_675 : decode b_La_law 675 = .ok (.iaload, 1) := by decide +kernel
theorem d_La_law_676 : decode b_La_law 676 = .ok (.aload_n 0, 1) := by decide +kernel
theorem d_La_law_677 : decode b_La_law 677 = .ok (.iload 5, 2) := by decide +kernel
theorem d_La_law_679 : decode b_La_law 679 = .ok (.iconst 3, 1) := by decide +kernel
theorem d_La_law_680 : decode b_La_law 680 = .ok (.iadd, 1) := by decide +kernel
theorem d_La_law_681 : decode b_La_law 681 = .ok (.iaload, 1) := by decide +kernel
theorem d_La_law_682 : decode b_La_law 682 = .ok (.invokevirtual 90, 3) := by decide +kernel
theorem d_La_law_685 : decode b_La_law 685 = .ok (.dstore 7, 2) := by decide +kernel
theorem d_La_law_687 : decode b_La_law 687 = .ok (.aload_n 2, 1) := by decide +kernel
theorem d_La_law_688 : decode b_La_law 688 = .ok (.invokevirtual 62, 3) := by decide +kernel
theorem d_La_law_691 : decode b_La_law 691 = .ok (.iload 6, 2) := by decide +kernel
theorem d_La_law_693 : decode b_La_law 693 = .ok (.if_icmp .eq 5, 3) := by decide +kernel
theorem d_La_law_696 : decode b_La_law 696 = .ok (.iconst 0, 1) := by decide +kernel
theorem d_La_law_697 : decode b_La_law 697 = .ok (.ireturn, 1) := by decide +kernel
theorem d_La_law_698 : decode b_La_law 698 = .ok (.iload 6, 2) := by decide +kernel
theorem d_La_law_700 : decode b_La_law 700 = .ok (.ifCond .ne 35, 3) := by decide +kernel
theorem d_La_law_703 : decode b_La_law 703 = .ok (.aload 4, 2) := by decide +kernel
theorem d_La_law_705 : decode b_La_law 705 = .ok (.iconst 0, 1) := by decide +kernel
theorem d_La_law_706 : decode b_La_law 706 = .ok (.daload, 1) := by decide +kernel
theorem d_La_law_707 : decode b_La_law 707 = .ok (.dload 7, 2) := by decide +kernel
theorem d_La_law_709 : decode b_La_law 709 = .ok (.dcmp .l, 1) := by decide +kernel
theorem d_La_law_710 : decode b_La_law 710 = .ok (.ifCond .eq 25, 3) := by decide +kernel
theorem d_La_law_713 : decode b_La_law 713 = .ok (.aload 4, 2) := by decide +kernel
theorem d_La_law_715 : decode b_La_law 715 = .ok (.iconst 0, 1) := by decide +kernel
theorem d_La_law_716 : decode b_La_law 716 = .ok (.daload, 1) := by decide +kernel
theorem d_La_law_717 : decode b_La_law 717 = .ok (.aload 4, 2) := by decide +kernel
theorem d_La_law_719 : decode b_La_law 719 = .ok (.iconst 0, 1) := by decide +kernel
theorem d_La_law_720 : decode b_La_law 720 = .ok (.daload, 1) := by decide +kernel
theorem d_La_law_721 : decode b_La_law 721 = .ok (.dcmp .l, 1) := by decide +kernel
theorem d_La_law_722 : decode b_La_law 722 = .ok (.ifCond .eq 11, 3) := by decide +kernel
theorem d_La_law_725 : decode b_La_law 725 = .ok (.dload 7, 2) := by decide +kernel
theorem d_La_law_727 : decode b_La_law 727 = .ok (.dload 7, 2) := by decide +kernel
theorem d_La_law_729 : decode b_La_law 729 = .ok (.dcmp .l, 1) := by decide +kernel
theorem d_La_law_730 : decode b_La_law 730 = .ok (.ifCond .ne 5, 3) := by decide +kernel
theorem d_La_law_733 : decode b_La_law 733 = .ok (.iconst 0, 1) := by decide +kernel
theorem d_La_law_734 : decode b_La_law 734 = .ok (.ireturn, 1) := by decide +kernel
theorem d_La_law_735 : decode b_La_law 735 = .ok (.goto 173, 3) := by decide +kernel
theorem d_La_law_738 : decode b_La_law 738 = .ok (.aload_n 1, 1) := by decide +kernel
theorem d_La_law_739 : decode b_La_law 739 = .ok (.aload_n 0, 1) := by decide +kernel
theorem d_La_law_740 : decode b_La_law 740 = .ok (.iload 5, 2) := by decide +kernel
theorem d_La_law_742 : decode b_La_law 742 = .ok (.iconst 1, 1) := by decide +kernel
theorem d_La_law_743 : decode b_La_law 743 = .ok (.iadd, 1) := by decide +kernel
theorem d_La_law_744 : decode b_La_law 744 = .ok (.iaload, 1) := by decide +kernel
theorem d_La_law_745 : decode b_La_law 745 = .ok (.aload_n 0, 1) := by decide +kernel
theorem d_La_law_746 : decode b_La_law 746 = .ok (.iload 5, 2) := by decide +kernel
theorem d_La_law_748 : decode b_La_law 748 = .ok (.iconst 2, 1) := by decide +kernel
theorem d_La_law_749 : decode b_La_law 749 = .ok (.iadd, 1) := by decide +kernel
theorem d_La_law_750 : decode b_La_law 750 = .ok (.iaload, 1) := by decide +kernel
theorem d_La_law_751 : decode b_La_law 751 = .ok (.aload_n 0, 1) := by decide +kernel
theorem d_La_law_752 : decode b_La_law 752 = .ok (.iload 5, 2) := by decide +kernel
theorem d_La_law_754 : decode b_La_law 754 = .ok (.iconst 3, 1) := by decide +kernel
theorem d_La_law_755 : decode b_La_law 755 = .ok (.iadd, 1) := by decide +kernel
theorem d_La_law_756 : decode b_La_law 756 = .ok (.iaload, 1) := by decide +kernel
theorem d_La_law_757 : decode b_La_law 757 = .ok (.aload_n 3, 1) := by decide +kernel
theorem d_La_law_758 : decode b_La_law 758 = .ok (.invokestatic 91, 3) := by decide +kernel
theorem d_La_law_761 : decode b_La_law 761 = .ok (.istore 6, 2) := by decide +kernel
theorem d_La_law_763 : decode b_La_law 763 = .ok (.aload_n 2, 1) := by decide +kernel
theorem d_La_law_764 : decode b_La_law 764 = .ok (.aload_n 0, 1) := by decide +kernel
theorem d_La_law_765 : decode b_La_law 765 = .ok (.iload 5, 2) := by decide +kernel
theorem d_La_law_767 : decode b_La_law 767 = .ok (.iconst 1, 1) := by decide +kernel
theorem d_La_law_768 : decode b_La_law 768 = .ok (.iadd, 1) := by decide +kernel
theorem d_La_law_769 : decode b_La_law 769 = .ok (.iaload, 1) := by decide +kernel
theorem d_La_law_770 : decode b_La_law 770 = .ok (.aload_n 0, 1) := by decide +kernel
theorem d_La_law_771 : decode b_La_law 771 = .ok (.iload 5, 2) := by decide +kernel
theorem d_La_law_773 : decode b_La_law 773 = .ok (.iconst 2, 1) := by decide +kernel
theorem d_La_law_774 : decode b_La_law 774 = .ok (.iadd, 1) := by decide +kernel
theorem d_La_law_775 : decode b_La_law 775 = .ok (.iaload, 1) := by decide +kernel
theorem d_La_law_776 : decode b_La_law 776 = .ok (.aload_n 0, 1) := by decide +kernel
theorem d_La_law_777 : decode b_La_law 777 = .ok (.iload 5, 2) := by decide +kernel
theorem d_La_law_779 : decode b_La_law 779 = .ok (.iconst 3, 1) := by decide +kernel
theorem d_La_law_780 : decode b_La_law 780 = .ok (.iadd, 1) := by decide +kernel
theorem d_La_law_781 : decode b_La_law 781 = .ok (.iaload, 1) := by decide +kernel
theorem d_La_law_782 : decode b_La_law 782 = .ok (.invokevirtual 94, 3) := by decide +kernel
theorem d_La_law_785 : decode b_La_law 785 = .ok (.istore 7, 2) := by decide +kernel
theorem d_La_law_787 : decode b_La_law 787 = .ok (.aload_n 2, 1) := by decide +kernel
theorem d_La_law_788 : decode b_La_law 788 = .ok (.invokevirtual 62, 3) := by decide +kernel
theorem d_La_law_791 : decode b_La_law 791 = .ok (.iload 6, 2) := by decide +kernel
theorem d_La_law_793 : decode b_La_law 793 = .ok (.if_icmp .eq 5, 3) := by decide +kernel
theorem d_La_law_796 : decode b_La_law 796 = .ok (.iconst 0, 1) := by decide +kernel
theorem d_La_law_797 : decode b_La_law 797 = .ok (.ireturn, 1) := by decide +kernel
theorem d_La_law_798 : decode b_La_law 798 = .ok (.iload 6, 2) := by decide +kernel
theorem d_La_law_800 : decode b_La_law 800 = .ok (.ifCond .ne 15, 3) := by decide +kernel
theorem d_La_law_803 : decode b_La_law 803 = .ok (.aload_n 3, 1) := by decide +kernel
theorem d_La_law_804 : decode b_La_law 804 = .ok (.iconst 0, 1) := by decide +kernel
theorem d_La_law_805 : decode b_La_law 805 = .ok (.laload, 1) := by decide +kernel
theorem d_La_law_806 : decode b_La_law 806 = .ok (.iload 7, 2) := by decide +kernel
theorem d_La_law_808 : decode b_La_law 808 = .ok (.i2l, 1) := by decide +kernel
theorem d_La_law_809 : decode b_La_law 809 = .ok (.lcmp, 1) := by decide +kernel
theorem d_La_law_810 : decode b_La_law 810 = .ok (.ifCond .eq 5, 3) := by decide +kernel
theorem d_La_law_813 : decode b_La_law 813 = .ok (.iconst 0, 1) := by decide +kernel
theorem d_La_law_814 : decode b_La_law 814 = .ok (.ireturn, 1) := by decide +kernel
theorem d_La_law_815 : decode b_La_law 815 = .ok (.goto 93, 3) := by decide +kernel
theorem d_La_law_818 : decode b_La_law 818 = .ok (.aload_n 1, 1) := by decide +kernel
theorem d_La_law_819 : decode b_La_law 819 = .ok (.aload 4, 2) := by decide +kernel
theorem d_La_law_821 : decode b_La_law 821 = .ok (.invokestatic 95, 3) := by decide +kernel
theorem d_La_law_824 : decode b_La_law 824 = .ok (.istore 6, 2) := by decide +kernel
theorem d_La_law_826 : decode b_La_law 826 = .ok (.aload_n 2, 1) := by decide +kernel
theorem d_La_law_827 : decode b_La_law 827 = .ok (.invokevirtual 98, 3) := by decide +kernel
theorem d_La_law_830 : decode b_La_law 830 = .ok (.dstore 7, 2) := by decide +kernel
theorem d_La_law_832 : decode b_La_law 832 = .ok (.aload_n 2, 1) := by decide +kernel
theorem d_La_law_833 : decode b_La_law 833 = .ok (.invokevirtual 62, 3) := by decide +kernel
theorem d_La_law_836 : decode b_La_law 836 = .ok (.iload 6, 2) := by decide +kernel
theorem d_La_law_838 : decode b_La_law 838 = .ok (.if_icmp .eq 5, 3) := by decide +kernel
theorem d_La_law_841 : decode b_La_law 841 = .ok (.iconst 0, 1) := by decide +kernel
theorem d_La_law_842 : decode b_La_law 842 = .ok (.ireturn, 1) := by decide +kernel
theorem d_La_law_843 : decode b_La_law 843 = .ok (.iload 6, 2) := by decide +kernel
theorem d_La_law_845 : decode b_La_law 845 = .ok (.ifCond .ne 35, 3) := by decide +kernel
theorem d_La_law_848 : decode b_La_law 848 = .ok (.aload 4, 2) := by decide +kernel
theorem d_La_law_850 : decode b_La_law 850 = .ok (.iconst 0, 1) := by decide +kernel
theorem d_La_law_851 : decode b_La_law 851 = .ok (.daload, 1) := by decide +kernel
theorem d_La_law_852 : decode b_La_law 852 = .ok (.dload 7, 2) := by decide +kernel
theorem d_La_law_854 : decode b_La_law 854 = .ok (.dcmp .l, 1) := by decide +kernel
theorem d_La_law_855 : decode b_La_law 855 = .ok (.ifCond .eq 25, 3) := by decide +kernel
theorem d_La_law_858 : decode b_La_law 858 = .ok (.aload 4, 2) := by decide +kernel
theorem d_La_law_860 : decode b_La_law 860 = .ok (.iconst 0, 1) := by decide +kernel
theorem d_La_law_861 : decode b_La_law 861 = .ok (.daload, 1) := by decide +kernel
theorem d_La_law_862 : decode b_La_law 862 = .ok (.aload 4, 2) := by decide +kernel
theorem d_La_law_864 : decode b_La_law 864 = .ok (.iconst 0, 1) := by decide +kernel
theorem d_La_law_865 : decode b_La_law 865 = .ok (.daload, 1) := by decide +kernel
theorem d_La_law_866 : decode b_La_law 866 = .ok (.dcmp .l, 1) := by decide +kernel
theorem d_La_law_867 : decode b_La_law 867 = .ok (.ifCond .eq 11, 3) := by decide +kernel
theorem d_La_law_870 : decode b_La_law 870 = .ok (.dload 7, 2) := by decide +kernel
theorem d_La_law_872 : decode b_La_law 872 = .ok (.dload 7, 2) := by decide +kernel
theorem d_La_law_874 : decode b_La_law 874 = .ok (.dcmp .l, 1) := by decide +kernel
theorem d_La_law_875 : decode b_La_law 875 = .ok (.ifCond .ne 5, 3) := by decide +kernel
theorem d_La_law_878 : decode b_La_law 878 = .ok (.iconst 0, 1) := by decide +kernel
theorem d_La_law_879 : decode b_La_law 879 = .ok (.ireturn, 1) := by decide +kernel
theorem d_La_law_880 : decode b_La_law 880 = .ok (.goto 28, 3) := by decide +kernel
theorem d_La_law_883 : decode b_La_law 883 = .ok (.aload_n 1, 1) := by decide +kernel
theorem d_La_law_884 : decode b_La_law 884 = .ok (.aload_n 0, 1) := by decide +kernel
theorem d_La_law_885 : decode b_La_law 885 = .ok (.iload 5, 2) := by decide +kernel
theorem d_La_law_887 : decode b_La_law 887 = .ok (.iconst 1, 1) := by decide +kernel
theorem d_La_law_888 : decode b_La_law 888 = .ok (.iadd, 1) := by decide +kernel
theorem d_La_law_889 : decode b_La_law 889 = .ok (.iaload, 1) := by decide +kernel
theorem d_La_law_890 : decode b_La_law 890 = .ok (.invokevirtual 99, 3) := by decide +kernel
theorem d_La_law_893 : decode b_La_law 893 = .ok (.aload_n 2, 1) := by decide +kernel
theorem d_La_law_894 : decode b_La_law 894 = .ok (.aload_n 0, 1) := by decide +kernel
theorem d_La_law_895 : decode b_La_law 895 = .ok (.iload 5, 2) := by decide +kernel
theorem d_La_law_897 : decode b_La_law 897 = .ok (.iconst 1, 1) := by decide +kernel
theorem d_La_law_898 : decode b_La_law 898 = .ok (.iadd, 1) := by decide +kernel
theorem d_La_law_899 : decode b_La_law 899 = .ok (.iaload, 1) := by decide +kernel
theorem d_La_law_900 : decode b_La_law 900 = .ok (.invokevirtual 102, 3) := by decide +kernel
theorem d_La_law_903 : decode b_La_law 903 = .ok (.if_icmp .eq 5, 3) := by decide +kernel
theorem d_La_law_906 : decode b_La_law 906 = .ok (.iconst 0, 1) := by decide +kernel
theorem d_La_law_907 : decode b_La_law 907 = .ok (.ireturn, 1) := by decide +kernel
theorem d_La_law_908 : decode b_La_law 908 = .ok (.iinc 5 7, 3) := by decide +kernel
theorem d_La_law_911 : decode b_La_law 911 = .ok (.goto (-883), 3) := by decide +kernel
theorem d_La_law_914 : decode b_La_law 914 = .ok (.iconst 1, 1) := by decide +kernel
theorem d_La_law_915 : decode b_La_law 915 = .ok (.ireturn, 1) := by decide +kernel
