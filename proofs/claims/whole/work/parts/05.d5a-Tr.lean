theorem d_Tr_init_0 : decode b_Tr_init 0 = .ok (.aload_n 0, 1) := by decide +kernel
theorem d_Tr_init_1 : decode b_Tr_init 1 = .ok (.invokespecial 1, 3) := by decide +kernel
theorem d_Tr_init_4 : decode b_Tr_init 4 = .ok (.aload_n 0, 1) := by decide +kernel
theorem d_Tr_init_5 : decode b_Tr_init 5 = .ok (.new 7, 3) := by decide +kernel
theorem d_Tr_init_8 : decode b_Tr_init 8 = .ok (.dup, 1) := by decide +kernel
theorem d_Tr_init_9 : decode b_Tr_init 9 = .ok (.invokespecial 9, 3) := by decide +kernel
theorem d_Tr_init_12 : decode b_Tr_init 12 = .ok (.putfield 10, 3) := by decide +kernel
theorem d_Tr_init_15 : decode b_Tr_init 15 = .ok (.aload_n 0, 1) := by decide +kernel
theorem d_Tr_init_16 : decode b_Tr_init 16 = .ok (.bipush 6, 2) := by decide +kernel
theorem d_Tr_init_18 : decode b_Tr_init 18 = .ok (.anewarray 16, 3) := by decide +kernel
theorem d_Tr_init_21 : decode b_Tr_init 21 = .ok (.putfield 18, 3) := by decide +kernel
theorem d_Tr_init_24 : decode b_Tr_init 24 = .ok (.iconst 0, 1) := by decide +kernel
theorem d_Tr_init_25 : decode b_Tr_init 25 = .ok (.istore_n 1, 1) := by decide +kernel
theorem d_Tr_init_26 : decode b_Tr_init 26 = .ok (.iload_n 1, 1) := by decide +kernel
theorem d_Tr_init_27 : decode b_Tr_init 27 = .ok (.bipush 6, 2) := by decide +kernel
theorem d_Tr_init_29 : decode b_Tr_init 29 = .ok (.if_icmp .ge 22, 3) := by decide +kernel
theorem d_Tr_init_32 : decode b_Tr_init 32 = .ok (.aload_n 0, 1) := by decide +kernel
theorem d_Tr_init_33 : decode b_Tr_init 33 = .ok (.getfield 18, 3) := by decide +kernel
theorem d_Tr_init_36 : decode b_Tr_init 36 = .ok (.iload_n 1, 1) := by decide +kernel
theorem d_Tr_init_37 : decode b_Tr_init 37 = .ok (.new 16, 3) := by decide +kernel
theorem d_Tr_init_40 : decode b_Tr_init 40 = .ok (.dup, 1) := by decide +kernel
theorem d_Tr_init_41 : decode b_Tr_init 41 = .ok (.invokespecial 22, 3) := by decide +kernel
theorem d_Tr_init_44 : decode b_Tr_init 44 = .ok (.aastore, 1) := by decide +kernel
theorem d_Tr_init_45 : decode b_Tr_init 45 = .ok (.iinc 1 1, 3) := by decide +kernel
theorem d_Tr_init_48 : decode b_Tr_init 48 = .ok (.goto (-22), 3) := by decide +kernel
theorem d_Tr_init_51 : decode b_Tr_init 51 = .ok (.aload_n 0, 1) := by decide +kernel
theorem d_Tr_init_52 : decode b_Tr_init 52 = .ok (.new 23, 3) := by decide +kernel
theorem d_Tr_init_55 : decode b_Tr_init 55 = .ok (.dup, 1) := by decide +kernel
theorem d_Tr_init_56 : decode b_Tr_init 56 = .ok (.invokespecial 25, 3) := by decide +kernel
theorem d_Tr_init_59 : decode b_Tr_init 59 = .ok (.putfield 26, 3) := by decide +kernel
theorem d_Tr_init_62 : decode b_Tr_init 62 = .ok (.aload_n 0, 1) := by decide +kernel
theorem d_Tr_init_63 : decode b_Tr_init 63 = .ok (.iconst (-1), 1) := by decide +kernel
theorem d_Tr_init_64 : decode b_Tr_init 64 = .ok (.putfield 30, 3) := by decide +kernel
theorem d_Tr_init_67 : decode b_Tr_init 67 = .ok (.return_, 1) := by decide +kernel
theorem d_Tr_type_0 : decode b_Tr_type 0 = .ok (.aload_n 0, 1) := by decide +kernel
theorem d_Tr_type_1 : decode b_Tr_type 1 = .ok (.getfield 10, 3) := by decide +kernel
theorem d_Tr_type_4 : decode b_Tr_type 4 = .ok (.lload_n 1, 1) := by decide +kernel
theorem d_Tr_type_5 : decode b_Tr_type 5 = .ok (.invokevirtual 34, 3) := by decide +kernel
theorem d_Tr_type_8 : decode b_Tr_type 8 = .ok (.ifCond .ne 13, 3) := by decide +kernel
theorem d_Tr_type_11 : decode b_Tr_type 11 = .ok (.new 38, 3) := by decide +kernel
theorem d_Tr_type_14 : decode b_Tr_type 14 = .ok (.dup, 1) := by decide +kernel
theorem d_Tr_type_15 : decode b_Tr_type 15 = .ok (.ldc 40, 2) := by decide +kernel
theorem d_Tr_type_17 : decode b_Tr_type 17 = .ok (.invokespecial 42, 3) := by decide +kernel
theorem d_Tr_type_20 : decode b_Tr_type 20 = .ok (.athrow, 1) := by decide +kernel
theorem d_Tr_type_21 : decode b_Tr_type 21 = .ok (.aload_n 0, 1) := by decide +kernel
theorem d_Tr_type_22 : decode b_Tr_type 22 = .ok (.getfield 10, 3) := by decide +kernel
theorem d_Tr_type_25 : decode b_Tr_type 25 = .ok (.lload_n 1, 1) := by decide +kernel
theorem d_Tr_type_26 : decode b_Tr_type 26 = .ok (.invokevirtual 45, 3) := by decide +kernel
theorem d_Tr_type_29 : decode b_Tr_type 29 = .ok (.ifCond .ne 13, 3) := by decide +kernel
theorem d_Tr_type_32 : decode b_Tr_type 32 = .ok (.new 48, 3) := by decide +kernel
theorem d_Tr_type_35 : decode b_Tr_type 35 = .ok (.dup, 1) := by decide +kernel
theorem d_Tr_type_36 : decode b_Tr_type 36 = .ok (.ldc 50, 2) := by decide +kernel
theorem d_Tr_type_38 : decode b_Tr_type 38 = .ok (.invokespecial 52, 3) := by decide +kernel
theorem d_Tr_type_41 : decode b_Tr_type 41 = .ok (.athrow, 1) := by decide +kernel
theorem d_Tr_type_42 : decode b_Tr_type 42 = .ok (.aload_n 0, 1) := by decide +kernel
theorem d_Tr_type_43 : decode b_Tr_type 43 = .ok (.getfield 10, 3) := by decide +kernel
theorem d_Tr_type_46 : decode b_Tr_type 46 = .ok (.lload_n 1, 1) := by decide +kernel
theorem d_Tr_type_47 : decode b_Tr_type 47 = .ok (.invokevirtual 53, 3) := by decide +kernel
theorem d_Tr_type_50 : decode b_Tr_type 50 = .ok (.aload_n 0, 1) := by decide +kernel
theorem d_Tr_type_51 : decode b_Tr_type 51 = .ok (.getfield 10, 3) := by decide +kernel
theorem d_Tr_type_54 : decode b_Tr_type 54 = .ok (.getfield 57, 3) := by decide +kernel
theorem d_Tr_type_57 : decode b_Tr_type 57 = .ok (.ireturn, 1) := by decide +kernel
theorem d_Tr_compile_0 : decode b_Tr_compile 0 = .ok (.iload_n 1, 1) := by decide +kernel
theorem d_Tr_compile_1 : decode b_Tr_compile 1 = .ok (.bipush 6, 2) := by decide +kernel
theorem d_Tr_compile_3 : decode b_Tr_compile 3 = .ok (.invokestatic 60, 3) := by decide +kernel
theorem d_Tr_compile_6 : decode b_Tr_compile 6 = .ok (.ifCond .ne 13, 3) := by decide +kernel
theorem d_Tr_compile_9 : decode b_Tr_compile 9 = .ok (.new 38, 3) := by decide +kernel
theorem d_Tr_compile_12 : decode b_Tr_compile 12 = .ok (.dup, 1) := by decide +kernel
theorem d_Tr_compile_13 : decode b_Tr_compile 13 = .ok (.ldc 64, 2) := by decide +kernel
theorem d_Tr_compile_15 : decode b_Tr_compile 15 = .ok (.invokespecial 42, 3) := by decide +kernel
theorem d_Tr_compile_18 : decode b_Tr_compile 18 = .ok (.athrow, 1) := by decide +kernel
theorem d_Tr_compile_19 : decode b_Tr_compile 19 = .ok (.aload_n 0, 1) := by decide +kernel
theorem d_Tr_compile_20 : decode b_Tr_compile 20 = .ok (.getfield 10, 3) := by decide +kernel
theorem d_Tr_compile_23 : decode b_Tr_compile 23 = .ok (.invokevirtual 66, 3) := by decide +kernel
theorem d_Tr_compile_26 : decode b_Tr_compile 26 = .ok (.istore_n 2, 1) := by decide +kernel
theorem d_Tr_compile_27 : decode b_Tr_compile 27 = .ok (.aload_n 0, 1) := by decide +kernel
theorem d_Tr_compile_28 : decode b_Tr_compile 28 = .ok (.getfield 10, 3) := by decide +kernel
theorem d_Tr_compile_31 : decode b_Tr_compile 31 = .ok (.invokevirtual 70, 3) := by decide +kernel
theorem d_Tr_compile_34 : decode b_Tr_compile 34 = .ok (.iload_n 2, 1) := by decide +kernel
theorem d_Tr_compile_35 : decode b_Tr_compile 35 = .ok (.ifCond .ne 24, 3) := by decide +kernel
theorem d_Tr_compile_38 : decode b_Tr_compile 38 = .ok (.aload_n 0, 1) := by decide +kernel
theorem d_Tr_compile_39 : decode b_Tr_compile 39 = .ok (.aload_n 0, 1) := by decide +kernel
theorem d_Tr_compile_40 : decode b_Tr_compile 40 = .ok (.getfield 10, 3) := by decide +kernel
theorem d_Tr_compile_43 : decode b_Tr_compile 43 = .ok (.getfield 73, 3) := by decide +kernel
theorem d_Tr_compile_46 : decode b_Tr_compile 46 = .ok (.putfield 30, 3) := by decide +kernel
theorem d_Tr_compile_49 : decode b_Tr_compile 49 = .ok (.new 38, 3) := by decide +kernel
theorem d_Tr_compile_52 : decode b_Tr_compile 52 = .ok (.dup, 1) := by decide +kernel
theorem d_Tr_compile_53 : decode b_Tr_compile 53 = .ok (.ldc 76, 2) := by decide +kernel
theorem d_Tr_compile_55 : decode b_Tr_compile 55 = .ok (.invokespecial 42, 3) := by decide +kernel
theorem d_Tr_compile_58 : decode b_Tr_compile 58 = .ok (.athrow, 1) := by decide +kernel
theorem d_Tr_compile_59 : decode b_Tr_compile 59 = .ok (.aload_n 0, 1) := by decide +kernel
theorem d_Tr_compile_60 : decode b_Tr_compile 60 = .ok (.getfield 18, 3) := by decide +kernel
theorem d_Tr_compile_63 : decode b_Tr_compile 63 = .ok (.iload_n 1, 1) := by decide +kernel
theorem d_Tr_compile_64 : decode b_Tr_compile 64 = .ok (.aaload, 1) := by decide +kernel
theorem d_Tr_compile_65 : decode b_Tr_compile 65 = .ok (.astore_n 3, 1) := by decide +kernel
theorem d_Tr_compile_66 : decode b_Tr_compile 66 = .ok (.aload_n 0, 1) := by decide +kernel
theorem d_Tr_compile_67 : decode b_Tr_compile 67 = .ok (.getfield 18, 3) := by decide +kernel
theorem d_Tr_compile_70 : decode b_Tr_compile 70 = .ok (.iload_n 1, 1) := by decide +kernel
theorem d_Tr_compile_71 : decode b_Tr_compile 71 = .ok (.aload_n 0, 1) := by decide +kernel
theorem d_Tr_compile_72 : decode b_Tr_compile 72 = .ok (.getfield 10, 3) := by decide +kernel
theorem d_Tr_compile_75 : decode b_Tr_compile 75 = .ok (.getfield 78, 3) := by decide +kernel
theorem d_Tr_compile_78 : decode b_Tr_compile 78 = .ok (.aastore, 1) := by decide +kernel
theorem d_Tr_compile_79 : decode b_Tr_compile 79 = .ok (.aload_n 0, 1) := by decide +kernel
theorem d_Tr_compile_80 : decode b_Tr_compile 80 = .ok (.getfield 18, 3) := by decide +kernel
theorem d_Tr_compile_83 : decode b_Tr_compile 83 = .ok (.iload_n 1, 1) := by decide +kernel
theorem d_Tr_compile_84 : decode b_Tr_compile 84 = .ok (.aaload, 1) := by decide +kernel
theorem d_Tr_compile_85 : decode b_Tr_compile 85 = .ok (.iconst 1, 1) := by decide +kernel
theorem d_Tr_compile_86 : decode b_Tr_compile 86 = .ok (.putfield 82, 3) := by decide +kernel
theorem d_Tr_compile_89 : decode b_Tr_compile 89 = .ok (.aload_n 0, 1) := by decide +kernel
theorem d_Tr_compile_90 : decode b_Tr_compile 90 = .ok (.getfield 10, 3) := by decide +kernel
theorem d_Tr_compile_93 : decode b_Tr_compile 93 = .ok (.aload_n 3, 1) := by decide +kernel
theorem d_Tr_compile_94 : decode b_Tr_compile 94 = .ok (.putfield 78, 3) := by decide +kernel
theorem d_Tr_compile_97 : decode b_Tr_compile 97 = .ok (.aload_n 0, 1) := by decide +kernel
theorem d_Tr_compile_98 : decode b_Tr_compile 98 = .ok (.getfield 18, 3) := by decide +kernel
theorem d_Tr_compile_101 : decode b_Tr_compile 101 = .ok (.iload_n 1, 1) := by decide +kernel
theorem d_Tr_compile_102 : decode b_Tr_compile 102 = .ok (.aaload, 1) := by decide +kernel
theorem d_Tr_compile_103 : decode b_Tr_compile 103 = .ok (.getfield 86, 3) := by decide +kernel
theorem d_Tr_compile_106 : decode b_Tr_compile 106 = .ok (.ireturn, 1) := by decide +kernel
theorem d_Tr_turn_0 : decode b_Tr_turn 0 = .ok (.iload_n 1, 1) := by decide +kernel
theorem d_Tr_turn_1 : decode b_Tr_turn 1 = .ok (.bipush 6, 2) := by decide +kernel
theorem d_Tr_turn_3 : decode b_Tr_turn 3 = .ok (.invokestatic 60, 3) := by decide +kernel
theorem d_Tr_turn_6 : decode b_Tr_turn 6 = .ok (.ifCond .ne 13, 3) := by decide +kernel
theorem d_Tr_turn_9 : decode b_Tr_turn 9 = .ok (.new 38, 3) := by decide +kernel
theorem d_Tr_turn_12 : decode b_Tr_turn 12 = .ok (.dup, 1) := by decide +kernel
theorem d_Tr_turn_13 : decode b_Tr_turn 13 = .ok (.ldc 64, 2) := by decide +kernel
theorem d_Tr_turn_15 : decode b_Tr_turn 15 = .ok (.invokespecial 42, 3) := by decide +kernel
theorem d_Tr_turn_18 : decode b_Tr_turn 18 = .ok (.athrow, 1) := by decide +kernel
theorem d_Tr_turn_19 : decode b_Tr_turn 19 = .ok (.aload_n 0, 1) := by decide +kernel
theorem d_Tr_turn_20 : decode b_Tr_turn 20 = .ok (.getfield 18, 3) := by decide +kernel
theorem d_Tr_turn_23 : decode b_Tr_turn 23 = .ok (.iload_n 1, 1) := by decide +kernel
theorem d_Tr_turn_24 : decode b_Tr_turn 24 = .ok (.aaload, 1) := by decide +kernel
theorem d_Tr_turn_25 : decode b_Tr_turn 25 = .ok (.getfield 82, 3) := by decide +kernel
theorem d_Tr_turn_28 : decode b_Tr_turn 28 = .ok (.ifCond .ne 13, 3) := by decide +kernel
theorem d_Tr_turn_31 : decode b_Tr_turn 31 = .ok (.new 89, 3) := by decide +kernel
theorem d_Tr_turn_34 : decode b_Tr_turn 34 = .ok (.dup, 1) := by decide +kernel
theorem d_Tr_turn_35 : decode b_Tr_turn 35 = .ok (.ldc 91, 2) := by decide +kernel
theorem d_Tr_turn_37 : decode b_Tr_turn 37 = .ok (.invokespecial 93, 3) := by decide +kernel
theorem d_Tr_turn_40 : decode b_Tr_turn 40 = .ok (.athrow, 1) := by decide +kernel
theorem d_Tr_turn_41 : decode b_Tr_turn 41 = .ok (.aload_n 0, 1) := by decide +kernel
theorem d_Tr_turn_42 : decode b_Tr_turn 42 = .ok (.getfield 18, 3) := by decide +kernel
theorem d_Tr_turn_45 : decode b_Tr_turn 45 = .ok (.iload_n 1, 1) := by decide +kernel
theorem d_Tr_turn_46 : decode b_Tr_turn 46 = .ok (.aaload, 1) := by decide +kernel
theorem d_Tr_turn_47 : decode b_Tr_turn 47 = .ok (.iload_n 2, 1) := by decide +kernel
theorem d_Tr_turn_48 : decode b_Tr_turn 48 = .ok (.putfield 94, 3) := by decide +kernel
theorem d_Tr_turn_51 : decode b_Tr_turn 51 = .ok (.aload_n 0, 1) := by decide +kernel
theorem d_Tr_turn_52 : decode b_Tr_turn 52 = .ok (.invokevirtual 97, 3) := by decide +kernel
theorem d_Tr_turn_55 : decode b_Tr_turn 55 = .ok (.ireturn, 1) := by decide +kernel
theorem d_Tr_fire_0 : decode b_Tr_fire 0 = .ok (.iload_n 1, 1) := by decide +kernel
theorem d_Tr_fire_1 : decode b_Tr_fire 1 = .ok (.bipush 8, 2) := by decide +kernel
theorem d_Tr_fire_3 : decode b_Tr_fire 3 = .ok (.invokestatic 60, 3) := by decide +kernel
theorem d_Tr_fire_6 : decode b_Tr_fire 6 = .ok (.ifCond .eq 11, 3) := by decide +kernel
theorem d_Tr_fire_9 : decode b_Tr_fire 9 = .ok (.iload_n 3, 1) := by decide +kernel
theorem d_Tr_fire_10 : decode b_Tr_fire 10 = .ok (.iconst 4, 1) := by decide +kernel
theorem d_Tr_fire_11 : decode b_Tr_fire 11 = .ok (.invokestatic 60, 3) := by decide +kernel
theorem d_Tr_fire_14 : decode b_Tr_fire 14 = .ok (.ifCond .ne 13, 3) := by decide +kernel
theorem d_Tr_fire_17 : decode b_Tr_fire 17 = .ok (.new 38, 3) := by decide +kernel
theorem d_Tr_fire_20 : decode b_Tr_fire 20 = .ok (.dup, 1) := by decide +kernel
theorem d_Tr_fire_21 : decode b_Tr_fire 21 = .ok (.ldc 101, 2) := by decide +kernel
theorem d_Tr_fire_23 : decode b_Tr_fire 23 = .ok (.invokespecial 42, 3) := by decide +kernel
theorem d_Tr_fire_26 : decode b_Tr_fire 26 = .ok (.athrow, 1) := by decide +kernel
theorem d_Tr_fire_27 : decode b_Tr_fire 27 = .ok (.dload 4, 2) := by decide +kernel
theorem d_Tr_fire_29 : decode b_Tr_fire 29 = .ok (.invokestatic 103, 3) := by decide +kernel
theorem d_Tr_fire_32 : decode b_Tr_fire 32 = .ok (.ifCond .eq 19, 3) := by decide +kernel
theorem d_Tr_fire_35 : decode b_Tr_fire 35 = .ok (.dload 6, 2) := by decide +kernel
theorem d_Tr_fire_37 : decode b_Tr_fire 37 = .ok (.invokestatic 103, 3) := by decide +kernel
theorem d_Tr_fire_40 : decode b_Tr_fire 40 = .ok (.ifCond .eq 11, 3) := by decide +kernel
theorem d_Tr_fire_43 : decode b_Tr_fire 43 = .ok (.dload 8, 2) := by decide +kernel
theorem d_Tr_fire_45 : decode b_Tr_fire 45 = .ok (.invokestatic 103, 3) := by decide +kernel
theorem d_Tr_fire_48 : decode b_Tr_fire 48 = .ok (.ifCond .ne 13, 3) := by decide +kernel
theorem d_Tr_fire_51 : decode b_Tr_fire 51 = .ok (.new 38, 3) := by decide +kernel
theorem d_Tr_fire_54 : decode b_Tr_fire 54 = .ok (.dup, 1) := by decide +kernel
theorem d_Tr_fire_55 : decode b_Tr_fire 55 = .ok (.ldc 107, 2) := by decide +kernel
theorem d_Tr_fire_57 : decode b_Tr_fire 57 = .ok (.invokespecial 42, 3) := by decide +kernel
theorem d_Tr_fire_60 : decode b_Tr_fire 60 = .ok (.athrow, 1) := by decide +kernel
theorem d_Tr_fire_61 : decode b_Tr_fire 61 = .ok (.aload_n 0, 1) := by decide +kernel
theorem d_Tr_fire_62 : decode b_Tr_fire 62 = .ok (.getfield 26, 3) := by decide +kernel
theorem d_Tr_fire_65 : decode b_Tr_fire 65 = .ok (.iload_n 3, 1) := by decide +kernel
theorem d_Tr_fire_66 : decode b_Tr_fire 66 = .ok (.dload 4, 2) := by decide +kernel
theorem d_Tr_fire_68 : decode b_Tr_fire 68 = .ok (.dload 6, 2) := by decide +kernel
theorem d_Tr_fire_70 : decode b_Tr_fire 70 = .ok (.dload 8, 2) := by decide +kernel
theorem d_Tr_fire_72 : decode b_Tr_fire 72 = .ok (.invokevirtual 109, 3) := by decide +kernel
theorem d_Tr_fire_75 : decode b_Tr_fire 75 = .ok (.iconst 0, 1) := by decide +kernel
theorem d_Tr_fire_76 : decode b_Tr_fire 76 = .ok (.istore 10, 2) := by decide +kernel
theorem d_Tr_fire_78 : decode b_Tr_fire 78 = .ok (.iconst 0, 1) := by decide +kernel
theorem d_Tr_fire_79 : decode b_Tr_fire 79 = .ok (.istore 11, 2) := by decide +kernel
theorem d_Tr_fire_81 : decode b_Tr_fire 81 = .ok (.iconst 0, 1) := by decide +kernel
theorem d_Tr_fire_82 : decode b_Tr_fire 82 = .ok (.istore 12, 2) := by decide +kernel
theorem d_Tr_fire_84 : decode b_Tr_fire 84 = .ok (.iload 12, 2) := by decide +kernel
theorem d_Tr_fire_86 : decode b_Tr_fire 86 = .ok (.bipush 6, 2) := by decide +kernel
theorem d_Tr_fire_88 : decode b_Tr_fire 88 = .ok (.if_icmp .ge 54, 3) := by decide +kernel
theorem d_Tr_fire_91 : decode b_Tr_fire 91 = .ok (.aload_n 0, 1) := by decide +kernel
theorem d_Tr_fire_92 : decode b_Tr_fire 92 = .ok (.getfield 18, 3) := by decide +kernel
theorem d_Tr_fire_95 : decode b_Tr_fire 95 = .ok (.iload 12, 2) := by decide +kernel
theorem d_Tr_fire_97 : decode b_Tr_fire 97 = .ok (.aaload, 1) := by decide +kernel
theorem d_Tr_fire_98 : decode b_Tr_fire 98 = .ok (.iload_n 1, 1) := by decide +kernel
theorem d_Tr_fire_99 : decode b_Tr_fire 99 = .ok (.iload_n 2, 1) := by decide +kernel
theorem d_Tr_fire_100 : decode b_Tr_fire 100 = .ok (.invokevirtual 113, 3) := by decide +kernel
theorem d_Tr_fire_103 : decode b_Tr_fire 103 = .ok (.ifCond .eq 33, 3) := by decide +kernel
theorem d_Tr_fire_106 : decode b_Tr_fire 106 = .ok (.iinc 10 1, 3) := by decide +kernel
theorem d_Tr_fire_109 : decode b_Tr_fire 109 = .ok (.iload 11, 2) := by decide +kernel
theorem d_Tr_fire_111 : decode b_Tr_fire 111 = .ok (.aload_n 0, 1) := by decide +kernel
theorem d_Tr_fire_112 : decode b_Tr_fire 112 = .ok (.getfield 26, 3) := by decide +kernel
theorem d_Tr_fire_115 : decode b_Tr_fire 115 = .ok (.aload_n 0, 1) := by decide +kernel
theorem d_Tr_fire_116 : decode b_Tr_fire 116 = .ok (.getfield 18, 3) := by decide +kernel
theorem d_Tr_fire_119 : decode b_Tr_fire 119 = .ok (.iload 12, 2) := by decide +kernel
theorem d_Tr_fire_121 : decode b_Tr_fire 121 = .ok (.aaload, 1) := by decide +kernel
theorem d_Tr_fire_122 : decode b_Tr_fire 122 = .ok (.invokevirtual 117, 3) := by decide +kernel
theorem d_Tr_fire_125 : decode b_Tr_fire 125 = .ok (.ifCond .eq 7, 3) := by decide +kernel
theorem d_Tr_fire_128 : decode b_Tr_fire 128 = .ok (.iconst 1, 1) := by decide +kernel
theorem d_Tr_fire_129 : decode b_Tr_fire 129 = .ok (.goto 4, 3) := by decide +kernel
theorem d_Tr_fire_132 : decode b_Tr_fire 132 = .ok (.iconst 0, 1) := by decide +kernel
theorem d_Tr_fire_133 : decode b_Tr_fire 133 = .ok (.iadd, 1) := by decide +kernel
theorem d_Tr_fire_134 : decode b_Tr_fire 134 = .ok (.istore 11, 2) := by decide +kernel
theorem d_Tr_fire_136 : decode b_Tr_fire 136 = .ok (.iinc 12 1, 3) := by decide +kernel
theorem d_Tr_fire_139 : decode b_Tr_fire 139 = .ok (.goto (-55), 3) := by decide +kernel
theorem d_Tr_fire_142 : decode b_Tr_fire 142 = .ok (.aload_n 0, 1) := by decide +kernel
theorem d_Tr_fire_143 : decode b_Tr_fire 143 = .ok (.dup, 1) := by decide +kernel
theorem d_Tr_fire_144 : decode b_Tr_fire 144 = .ok (.getfield 121, 3) := by decide +kernel
theorem d_Tr_fire_147 : decode b_Tr_fire 147 = .ok (.iload 10, 2) := by decide +kernel
theorem d_Tr_fire_149 : decode b_Tr_fire 149 = .ok (.ifCond .le 7, 3) := by decide +kernel
theorem d_Tr_fire_152 : decode b_Tr_fire 152 = .ok (.iconst 1, 1) := by decide +kernel
theorem d_Tr_fire_153 : decode b_Tr_fire 153 = .ok (.goto 4, 3) := by decide +kernel
theorem d_Tr_fire_156 : decode b_Tr_fire 156 = .ok (.iconst 0, 1) := by decide +kernel
theorem d_Tr_fire_157 : decode b_Tr_fire 157 = .ok (.iadd, 1) := by decide +kernel
theorem d_Tr_fire_158 : decode b_Tr_fire 158 = .ok (.putfield 121, 3) := by decide +kernel
theorem d_Tr_fire_161 : decode b_Tr_fire 161 = .ok (.iload 11, 2) := by decide +kernel
theorem d_Tr_fire_163 : decode b_Tr_fire 163 = .ok (.ireturn, 1) := by decide +kernel
theorem d_Tr_tick_0 : decode b_Tr_tick 0 = .ok (.iload_n 1, 1) := by decide +kernel
theorem d_Tr_tick_1 : decode b_Tr_tick 1 = .ok (.iconst 1, 1) := by decide +kernel
theorem d_Tr_tick_2 : decode b_Tr_tick 2 = .ok (.if_icmp .lt 9, 3) := by decide +kernel
theorem d_Tr_tick_5 : decode b_Tr_tick 5 = .ok (.iload_n 1, 1) := by decide +kernel
theorem d_Tr_tick_6 : decode b_Tr_tick 6 = .ok (.bipush 100, 2) := by decide +kernel
theorem d_Tr_tick_8 : decode b_Tr_tick 8 = .ok (.if_icmp .le 13, 3) := by decide +kernel
theorem d_Tr_tick_11 : decode b_Tr_tick 11 = .ok (.new 38, 3) := by decide +kernel
theorem d_Tr_tick_14 : decode b_Tr_tick 14 = .ok (.dup, 1) := by decide +kernel
theorem d_Tr_tick_15 : decode b_Tr_tick 15 = .ok (.ldc 124, 2) := by decide +kernel
theorem d_Tr_tick_17 : decode b_Tr_tick 17 = .ok (.invokespecial 42, 3) := by decide +kernel
theorem d_Tr_tick_20 : decode b_Tr_tick 20 = .ok (.athrow, 1) := by decide +kernel
theorem d_Tr_tick_21 : decode b_Tr_tick 21 = .ok (.aload_n 0, 1) := by decide +kernel
theorem d_Tr_tick_22 : decode b_Tr_tick 22 = .ok (.getfield 26, 3) := by decide +kernel
theorem d_Tr_tick_25 : decode b_Tr_tick 25 = .ok (.dup, 1) := by decide +kernel
theorem d_Tr_tick_26 : decode b_Tr_tick 26 = .ok (.getfield 126, 3) := by decide +kernel
theorem d_Tr_tick_29 : decode b_Tr_tick 29 = .ok (.iload_n 1, 1) := by decide +kernel
theorem d_Tr_tick_30 : decode b_Tr_tick 30 = .ok (.iadd, 1) := by decide +kernel
theorem d_Tr_tick_31 : decode b_Tr_tick 31 = .ok (.putfield 126, 3) := by decide +kernel
theorem d_Tr_tick_34 : decode b_Tr_tick 34 = .ok (.aload_n 0, 1) := by decide +kernel
theorem d_Tr_tick_35 : decode b_Tr_tick 35 = .ok (.getfield 26, 3) := by decide +kernel
theorem d_Tr_tick_38 : decode b_Tr_tick 38 = .ok (.getfield 126, 3) := by decide +kernel
theorem d_Tr_tick_41 : decode b_Tr_tick 41 = .ok (.ireturn, 1) := by decide +kernel
theorem d_Tr_variable_0 : decode b_Tr_variable 0 = .ok (.iload_n 1, 1) := by decide +kernel
theorem d_Tr_variable_1 : decode b_Tr_variable 1 = .ok (.bipush 6, 2) := by decide +kernel
theorem d_Tr_variable_3 : decode b_Tr_variable 3 = .ok (.invokestatic 60, 3) := by decide +kernel
theorem d_Tr_variable_6 : decode b_Tr_variable 6 = .ok (.ifCond .ne 13, 3) := by decide +kernel
theorem d_Tr_variable_9 : decode b_Tr_variable 9 = .ok (.new 38, 3) := by decide +kernel
theorem d_Tr_variable_12 : decode b_Tr_variable 12 = .ok (.dup, 1) := by decide +kernel
theorem d_Tr_variable_13 : decode b_Tr_variable 13 = .ok (.ldc 129, 2) := by decide +kernel
theorem d_Tr_variable_15 : decode b_Tr_variable 15 = .ok (.invokespecial 42, 3) := by decide +kernel
theorem d_Tr_variable_18 : decode b_Tr_variable 18 = .ok (.athrow, 1) := by decide +kernel
theorem d_Tr_variable_19 : decode b_Tr_variable 19 = .ok (.iload_n 1, 1) := by decide +kernel
theorem d_Tr_variable_20 : decode b_Tr_variable 20 = .ok (.iconst 3, 1) := by decide +kernel
theorem d_Tr_variable_21 : decode b_Tr_variable 21 = .ok (.if_icmp .lt 21, 3) := by decide +kernel
theorem d_Tr_variable_24 : decode b_Tr_variable 24 = .ok (.iload_n 2, 1) := by decide +kernel
theorem d_Tr_variable_25 : decode b_Tr_variable 25 = .ok (.iconst 4, 1) := by decide +kernel
theorem d_Tr_variable_26 : decode b_Tr_variable 26 = .ok (.invokestatic 60, 3) := by decide +kernel
theorem d_Tr_variable_29 : decode b_Tr_variable 29 = .ok (.ifCond .ne 13, 3) := by decide +kernel
theorem d_Tr_variable_32 : decode b_Tr_variable 32 = .ok (.new 38, 3) := by decide +kernel
theorem d_Tr_variable_35 : decode b_Tr_variable 35 = .ok (.dup, 1) := by decide +kernel
theorem d_Tr_variable_36 : decode b_Tr_variable 36 = .ok (.ldc 131, 2) := by decide +kernel
theorem d_Tr_variable_38 : decode b_Tr_variable 38 = .ok (.invokespecial 42, 3) := by decide +kernel
theorem d_Tr_variable_41 : decode b_Tr_variable 41 = .ok (.athrow, 1) := by decide +kernel
theorem d_Tr_variable_42 : decode b_Tr_variable 42 = .ok (.aload_n 0, 1) := by decide +kernel
theorem d_Tr_variable_43 : decode b_Tr_variable 43 = .ok (.getfield 26, 3) := by decide +kernel
theorem d_Tr_variable_46 : decode b_Tr_variable 46 = .ok (.iload_n 1, 1) := by decide +kernel
theorem d_Tr_variable_47 : decode b_Tr_variable 47 = .ok (.iload_n 2, 1) := by decide +kernel
theorem d_Tr_variable_48 : decode b_Tr_variable 48 = .ok (.invokevirtual 133, 3) := by decide +kernel
theorem d_Tr_variable_51 : decode b_Tr_variable 51 = .ok (.dreturn, 1) := by decide +kernel
theorem d_Tr_gathered_0 : decode b_Tr_gathered 0 = .ok (.iload_n 1, 1) := by decide +kernel
theorem d_Tr_gathered_1 : decode b_Tr_gathered 1 = .ok (.iconst 3, 1) := by decide +kernel
theorem d_Tr_gathered_2 : decode b_Tr_gathered 2 = .ok (.invokestatic 60, 3) := by decide +kernel
theorem d_Tr_gathered_5 : decode b_Tr_gathered 5 = .ok (.ifCond .eq 11, 3) := by decide +kernel
theorem d_Tr_gathered_8 : decode b_Tr_gathered 8 = .ok (.iload_n 3, 1) := by decide +kernel
theorem d_Tr_gathered_9 : decode b_Tr_gathered 9 = .ok (.iconst 4, 1) := by decide +kernel
theorem d_Tr_gathered_10 : decode b_Tr_gathered 10 = .ok (.invokestatic 60, 3) := by decide +kernel
theorem d_Tr_gathered_13 : decode b_Tr_gathered 13 = .ok (.ifCond .ne 13, 3) := by decide +kernel
theorem d_Tr_gathered_16 : decode b_Tr_gathered 16 = .ok (.new 38, 3) := by decide +kernel
theorem d_Tr_gathered_19 : decode b_Tr_gathered 19 = .ok (.dup, 1) := by decide +kernel
theorem d_Tr_gathered_20 : decode b_Tr_gathered 20 = .ok (.ldc 137, 2) := by decide +kernel
theorem d_Tr_gathered_22 : decode b_Tr_gathered 22 = .ok (.invokespecial 42, 3) := by decide +kernel
theorem d_Tr_gathered_25 : decode b_Tr_gathered 25 = .ok (.athrow, 1) := by decide +kernel
theorem d_Tr_gathered_26 : decode b_Tr_gathered 26 = .ok (.aload_n 0, 1) := by decide +kernel
theorem d_Tr_gathered_27 : decode b_Tr_gathered 27 = .ok (.getfield 26, 3) := by decide +kernel
theorem d_Tr_gathered_30 : decode b_Tr_gathered 30 = .ok (.getfield 139, 3) := by decide +kernel
theorem d_Tr_gathered_33 : decode b_Tr_gathered 33 = .ok (.iload_n 1, 1) := by decide +kernel
theorem d_Tr_gathered_34 : decode b_Tr_gathered 34 = .ok (.aaload, 1) := by decide +kernel
theorem d_Tr_gathered_35 : decode b_Tr_gathered 35 = .ok (.astore 4, 2) := by decide +kernel
theorem d_Tr_gathered_37 : decode b_Tr_gathered 37 = .ok (.aload 4, 2) := by decide +kernel
theorem d_Tr_gathered_39 : decode b_Tr_gathered 39 = .ok (.iload_n 2, 1) := by decide +kernel
theorem d_Tr_gathered_40 : decode b_Tr_gathered 40 = .ok (.invokevirtual 143, 3) := by decide +kernel
theorem d_Tr_gathered_43 : decode b_Tr_gathered 43 = .ok (.istore 5, 2) := by decide +kernel
theorem d_Tr_gathered_45 : decode b_Tr_gathered 45 = .ok (.iload 5, 2) := by decide +kernel
theorem d_Tr_gathered_47 : decode b_Tr_gathered 47 = .ok (.ifCond .ge 13, 3) := by decide +kernel
theorem d_Tr_gathered_50 : decode b_Tr_gathered 50 = .ok (.new 89, 3) := by decide +kernel
theorem d_Tr_gathered_53 : decode b_Tr_gathered 53 = .ok (.dup, 1) := by decide +kernel
theorem d_Tr_gathered_54 : decode b_Tr_gathered 54 = .ok (.ldc 149, 2) := by decide +kernel
theorem d_Tr_gathered_56 : decode b_Tr_gathered 56 = .ok (.invokespecial 93, 3) := by decide +kernel
theorem d_Tr_gathered_59 : decode b_Tr_gathered 59 = .ok (.athrow, 1) := by decide +kernel
theorem d_Tr_gathered_60 : decode b_Tr_gathered 60 = .ok (.aload 4, 2) := by decide +kernel
theorem d_Tr_gathered_62 : decode b_Tr_gathered 62 = .ok (.iload 5, 2) := by decide +kernel
theorem d_Tr_gathered_64 : decode b_Tr_gathered 64 = .ok (.iload_n 3, 1) := by decide +kernel
theorem d_Tr_gathered_65 : decode b_Tr_gathered 65 = .ok (.invokevirtual 151, 3) := by decide +kernel
theorem d_Tr_gathered_68 : decode b_Tr_gathered 68 = .ok (.dreturn, 1) := by decide +kernel
theorem d_Tr_many_0 : decode b_Tr_many 0 = .ok (.iload_n 1, 1) := by decide +kernel
theorem d_Tr_many_1 : decode b_Tr_many 1 = .ok (.iconst 3, 1) := by decide +kernel
theorem d_Tr_many_2 : decode b_Tr_many 2 = .ok (.invokestatic 60, 3) := by decide +kernel
theorem d_Tr_many_5 : decode b_Tr_many 5 = .ok (.ifCond .eq 12, 3) := by decide +kernel
theorem d_Tr_many_8 : decode b_Tr_many 8 = .ok (.iload_n 3, 1) := by decide +kernel
theorem d_Tr_many_9 : decode b_Tr_many 9 = .ok (.bipush 9, 2) := by decide +kernel
theorem d_Tr_many_11 : decode b_Tr_many 11 = .ok (.invokestatic 60, 3) := by decide +kernel
theorem d_Tr_many_14 : decode b_Tr_many 14 = .ok (.ifCond .ne 13, 3) := by decide +kernel
theorem d_Tr_many_17 : decode b_Tr_many 17 = .ok (.new 38, 3) := by decide +kernel
theorem d_Tr_many_20 : decode b_Tr_many 20 = .ok (.dup, 1) := by decide +kernel
theorem d_Tr_many_21 : decode b_Tr_many 21 = .ok (.ldc 154, 2) := by decide +kernel
theorem d_Tr_many_23 : decode b_Tr_many 23 = .ok (.invokespecial 42, 3) := by decide +kernel
theorem d_Tr_many_26 : decode b_Tr_many 26 = .ok (.athrow, 1) := by decide +kernel
theorem d_Tr_many_27 : decode b_Tr_many 27 = .ok (.aload_n 0, 1) := by decide +kernel
theorem d_Tr_many_28 : decode b_Tr_many 28 = .ok (.getfield 26, 3) := by decide +kernel
theorem d_Tr_many_31 : decode b_Tr_many 31 = .ok (.getfield 139, 3) := by decide +kernel
theorem d_Tr_many_34 : decode b_Tr_many 34 = .ok (.iload_n 1, 1) := by decide +kernel
theorem d_Tr_many_35 : decode b_Tr_many 35 = .ok (.aaload, 1) := by decide +kernel
theorem d_Tr_many_36 : decode b_Tr_many 36 = .ok (.astore 4, 2) := by decide +kernel
theorem d_Tr_many_38 : decode b_Tr_many 38 = .ok (.aload 4, 2) := by decide +kernel
theorem d_Tr_many_40 : decode b_Tr_many 40 = .ok (.iload_n 2, 1) := by decide +kernel
theorem d_Tr_many_41 : decode b_Tr_many 41 = .ok (.invokevirtual 143, 3) := by decide +kernel
theorem d_Tr_many_44 : decode b_Tr_many 44 = .ok (.istore 5, 2) := by decide +kernel
theorem d_Tr_many_46 : decode b_Tr_many 46 = .ok (.iload 5, 2) := by decide +kernel
theorem d_Tr_many_48 : decode b_Tr_many 48 = .ok (.ifCond .ge 13, 3) := by decide +kernel
theorem d_Tr_many_51 : decode b_Tr_many 51 = .ok (.new 89, 3) := by decide +kernel
theorem d_Tr_many_54 : decode b_Tr_many 54 = .ok (.dup, 1) := by decide +kernel
theorem d_Tr_many_55 : decode b_Tr_many 55 = .ok (.ldc 149, 2) := by decide +kernel
theorem d_Tr_many_57 : decode b_Tr_many 57 = .ok (.invokespecial 93, 3) := by decide +kernel
theorem d_Tr_many_60 : decode b_Tr_many 60 = .ok (.athrow, 1) := by decide +kernel
theorem d_Tr_many_61 : decode b_Tr_many 61 = .ok (.iload_n 3, 1) := by decide +kernel
theorem d_Tr_many_62 : decode b_Tr_many 62 = .ok (.bipush 8, 2) := by decide +kernel
theorem d_Tr_many_64 : decode b_Tr_many 64 = .ok (.if_icmp .ne 14, 3) := by decide +kernel
theorem d_Tr_many_67 : decode b_Tr_many 67 = .ok (.aload 4, 2) := by decide +kernel
theorem d_Tr_many_69 : decode b_Tr_many 69 = .ok (.getfield 156, 3) := by decide +kernel
theorem d_Tr_many_72 : decode b_Tr_many 72 = .ok (.iload 5, 2) := by decide +kernel
theorem d_Tr_many_74 : decode b_Tr_many 74 = .ok (.iaload, 1) := by decide +kernel
theorem d_Tr_many_75 : decode b_Tr_many 75 = .ok (.goto 16, 3) := by decide +kernel
theorem d_Tr_many_78 : decode b_Tr_many 78 = .ok (.aload 4, 2) := by decide +kernel
theorem d_Tr_many_80 : decode b_Tr_many 80 = .ok (.getfield 160, 3) := by decide +kernel
theorem d_Tr_many_83 : decode b_Tr_many 83 = .ok (.iload 5, 2) := by decide +kernel
theorem d_Tr_many_85 : decode b_Tr_many 85 = .ok (.bipush 8, 2) := by decide +kernel
theorem d_Tr_many_87 : decode b_Tr_many 87 = .ok (.imul, 1) := by decide +kernel
theorem d_Tr_many_88 : decode b_Tr_many 88 = .ok (.iload_n 3, 1) := by decide +kernel
theorem d_Tr_many_89 : decode b_Tr_many 89 = .ok (.iadd, 1) := by decide +kernel
theorem d_Tr_many_90 : decode b_Tr_many 90 = .ok (.iaload, 1) := by decide +kernel
theorem d_Tr_many_91 : decode b_Tr_many 91 = .ok (.ireturn, 1) := by decide +kernel
theorem d_Tr_record_0 : decode b_Tr_record 0 = .ok (.aload_n 0, 1) := by decide +kernel
theorem d_Tr_record_1 : decode b_Tr_record 1 = .ok (.getfield 26, 3) := by decide +kernel
theorem d_Tr_record_4 : decode b_Tr_record 4 = .ok (.getfield 163, 3) := by decide +kernel
theorem d_Tr_record_7 : decode b_Tr_record 7 = .ok (.getfield 167, 3) := by decide +kernel
theorem d_Tr_record_10 : decode b_Tr_record 10 = .ok (.ifCond .ne 13, 3) := by decide +kernel
theorem d_Tr_record_13 : decode b_Tr_record 13 = .ok (.new 89, 3) := by decide +kernel
theorem d_Tr_record_16 : decode b_Tr_record 16 = .ok (.dup, 1) := by decide +kernel
theorem d_Tr_record_17 : decode b_Tr_record 17 = .ok (.ldc 172, 2) := by decide +kernel
theorem d_Tr_record_19 : decode b_Tr_record 19 = .ok (.invokespecial 93, 3) := by decide +kernel
theorem d_Tr_record_22 : decode b_Tr_record 22 = .ok (.athrow, 1) := by decide +kernel
theorem d_Tr_record_23 : decode b_Tr_record 23 = .ok (.aload_n 0, 1) := by decide +kernel
theorem d_Tr_record_24 : decode b_Tr_record 24 = .ok (.getfield 26, 3) := by decide +kernel
theorem d_Tr_record_27 : decode b_Tr_record 27 = .ok (.getfield 163, 3) := by decide +kernel
theorem d_Tr_record_30 : decode b_Tr_record 30 = .ok (.invokevirtual 174, 3) := by decide +kernel
theorem d_Tr_record_33 : decode b_Tr_record 33 = .ok (.dreturn, 1) := by decide +kernel
theorem d_Tr_count_0 : decode b_Tr_count 0 = .ok (.iload_n 1, 1) := by decide +kernel
theorem d_Tr_count_1 : decode b_Tr_count 1 = .ok (.bipush 20, 2) := by decide +kernel
theorem d_Tr_count_3 : decode b_Tr_count 3 = .ok (.if_icmp .lt 41, 3) := by decide +kernel
theorem d_Tr_count_6 : decode b_Tr_count 6 = .ok (.iload_n 1, 1) := by decide +kernel
theorem d_Tr_count_7 : decode b_Tr_count 7 = .ok (.bipush 26, 2) := by decide +kernel
theorem d_Tr_count_9 : decode b_Tr_count 9 = .ok (.if_icmp .ge 35, 3) := by decide +kernel
theorem d_Tr_count_12 : decode b_Tr_count 12 = .ok (.aload_n 0, 1) := by decide +kernel
theorem d_Tr_count_13 : decode b_Tr_count 13 = .ok (.getfield 18, 3) := by decide +kernel
theorem d_Tr_count_16 : decode b_Tr_count 16 = .ok (.iload_n 1, 1) := by decide +kernel
theorem d_Tr_count_17 : decode b_Tr_count 17 = .ok (.bipush 20, 2) := by decide +kernel
theorem d_Tr_count_19 : decode b_Tr_count 19 = .ok (.isub, 1) := by decide +kernel
theorem d_Tr_count_20 : decode b_Tr_count 20 = .ok (.aaload, 1) := by decide +kernel
theorem d_Tr_count_21 : decode b_Tr_count 21 = .ok (.getfield 82, 3) := by decide +kernel
theorem d_Tr_count_24 : decode b_Tr_count 24 = .ok (.ifCond .eq 18, 3) := by decide +kernel
theorem d_Tr_count_27 : decode b_Tr_count 27 = .ok (.aload_n 0, 1) := by decide +kernel
theorem d_Tr_count_28 : decode b_Tr_count 28 = .ok (.getfield 18, 3) := by decide +kernel
theorem d_Tr_count_31 : decode b_Tr_count 31 = .ok (.iload_n 1, 1) := by decide +kernel
theorem d_Tr_count_32 : decode b_Tr_count 32 = .ok (.bipush 20, 2) := by decide +kernel
theorem d_Tr_count_34 : decode b_Tr_count 34 = .ok (.isub, 1) := by decide +kernel
theorem d_Tr_count_35 : decode b_Tr_count 35 = .ok (.aaload, 1) := by decide +kernel
theorem d_Tr_count_36 : decode b_Tr_count 36 = .ok (.getfield 178, 3) := by decide +kernel
theorem d_Tr_count_39 : decode b_Tr_count 39 = .ok (.goto 4, 3) := by decide +kernel
theorem d_Tr_count_42 : decode b_Tr_count 42 = .ok (.iconst (-1), 1) := by decide +kernel
theorem d_Tr_count_43 : decode b_Tr_count 43 = .ok (.ireturn, 1) := by decide +kernel
theorem d_Tr_count_44 : decode b_Tr_count 44 = .ok (.iload_n 1, 1) := by decide +kernel
theorem d_Tr_count_45 : decode b_Tr_count 45 = .ok (.bipush 30, 2) := by decide +kernel
theorem d_Tr_count_47 : decode b_Tr_count 47 = .ok (.if_icmp .lt 41, 3) := by decide +kernel
theorem d_Tr_count_50 : decode b_Tr_count 50 = .ok (.iload_n 1, 1) := by decide +kernel
theorem d_Tr_count_51 : decode b_Tr_count 51 = .ok (.bipush 36, 2) := by decide +kernel
theorem d_Tr_count_53 : decode b_Tr_count 53 = .ok (.if_icmp .ge 35, 3) := by decide +kernel
theorem d_Tr_count_56 : decode b_Tr_count 56 = .ok (.aload_n 0, 1) := by decide +kernel
theorem d_Tr_count_57 : decode b_Tr_count 57 = .ok (.getfield 18, 3) := by decide +kernel
theorem d_Tr_count_60 : decode b_Tr_count 60 = .ok (.iload_n 1, 1) := by decide +kernel
theorem d_Tr_count_61 : decode b_Tr_count 61 = .ok (.bipush 30, 2) := by decide +kernel
theorem d_Tr_count_63 : decode b_Tr_count 63 = .ok (.isub, 1) := by decide +kernel
theorem d_Tr_count_64 : decode b_Tr_count 64 = .ok (.aaload, 1) := by decide +kernel
theorem d_Tr_count_65 : decode b_Tr_count 65 = .ok (.getfield 82, 3) := by decide +kernel
theorem d_Tr_count_68 : decode b_Tr_count 68 = .ok (.ifCond .eq 18, 3) := by decide +kernel
theorem d_Tr_count_71 : decode b_Tr_count 71 = .ok (.aload_n 0, 1) := by decide +kernel
theorem d_Tr_count_72 : decode b_Tr_count 72 = .ok (.getfield 18, 3) := by decide +kernel
theorem d_Tr_count_75 : decode b_Tr_count 75 = .ok (.iload_n 1, 1) := by decide +kernel
theorem d_Tr_count_76 : decode b_Tr_count 76 = .ok (.bipush 30, 2) := by decide +kernel
theorem d_Tr_count_78 : decode b_Tr_count 78 = .ok (.isub, 1) := by decide +kernel
theorem d_Tr_count_79 : decode b_Tr_count 79 = .ok (.aaload, 1) := by decide +kernel
theorem d_Tr_count_80 : decode b_Tr_count 80 = .ok (.getfield 181, 3) := by decide +kernel
theorem d_Tr_count_83 : decode b_Tr_count 83 = .ok (.goto 4, 3) := by decide +kernel
theorem d_Tr_count_86 : decode b_Tr_count 86 = .ok (.iconst (-1), 1) := by decide +kernel
theorem d_Tr_count_87 : decode b_Tr_count 87 = .ok (.ireturn, 1) := by decide +kernel
theorem d_Tr_count_88 : decode b_Tr_count 88 = .ok (.iload_n 1, 1) := by decide +kernel
theorem d_Tr_count_89 : decode b_Tr_count 89 = .ok (.bipush 8, 2) := by decide +kernel
theorem d_Tr_count_91 : decode b_Tr_count 91 = .ok (.if_icmp .lt 25, 3) := by decide +kernel
theorem d_Tr_count_94 : decode b_Tr_count 94 = .ok (.iload_n 1, 1) := by decide +kernel
theorem d_Tr_count_95 : decode b_Tr_count 95 = .ok (.bipush 11, 2) := by decide +kernel
theorem d_Tr_count_97 : decode b_Tr_count 97 = .ok (.if_icmp .ge 19, 3) := by decide +kernel
theorem d_Tr_count_100 : decode b_Tr_count 100 = .ok (.aload_n 0, 1) := by decide +kernel
theorem d_Tr_count_101 : decode b_Tr_count 101 = .ok (.getfield 26, 3) := by decide +kernel
theorem d_Tr_count_104 : decode b_Tr_count 104 = .ok (.getfield 139, 3) := by decide +kernel
theorem d_Tr_count_107 : decode b_Tr_count 107 = .ok (.iload_n 1, 1) := by decide +kernel
theorem d_Tr_count_108 : decode b_Tr_count 108 = .ok (.bipush 8, 2) := by decide +kernel
theorem d_Tr_count_110 : decode b_Tr_count 110 = .ok (.isub, 1) := by decide +kernel
theorem d_Tr_count_111 : decode b_Tr_count 111 = .ok (.aaload, 1) := by decide +kernel
theorem d_Tr_count_112 : decode b_Tr_count 112 = .ok (.getfield 184, 3) := by decide +kernel
theorem d_Tr_count_115 : decode b_Tr_count 115 = .ok (.ireturn, 1) := by decide +kernel
theorem d_Tr_count_116 : decode b_Tr_count 116 = .ok (.iload_n 1, 1) := by decide +kernel
theorem d_Tr_count_117 : decode b_Tr_count 117 = .ok (.tableswitch 105 0 7 #[47, 52, 60, 65, 70, 81, 92, 100], 47) := by decide +kernel
theorem d_Tr_count_164 : decode b_Tr_count 164 = .ok (.aload_n 0, 1) := by decide +kernel
theorem d_Tr_count_165 : decode b_Tr_count 165 = .ok (.getfield 30, 3) := by decide +kernel
theorem d_Tr_count_168 : decode b_Tr_count 168 = .ok (.ireturn, 1) := by decide +kernel
theorem d_Tr_count_169 : decode b_Tr_count 169 = .ok (.aload_n 0, 1) := by decide +kernel
theorem d_Tr_count_170 : decode b_Tr_count 170 = .ok (.getfield 10, 3) := by decide +kernel
theorem d_Tr_count_173 : decode b_Tr_count 173 = .ok (.getfield 57, 3) := by decide +kernel
theorem d_Tr_count_176 : decode b_Tr_count 176 = .ok (.ireturn, 1) := by decide +kernel
theorem d_Tr_count_177 : decode b_Tr_count 177 = .ok (.aload_n 0, 1) := by decide +kernel
theorem d_Tr_count_178 : decode b_Tr_count 178 = .ok (.invokevirtual 185, 3) := by decide +kernel
theorem d_Tr_count_181 : decode b_Tr_count 181 = .ok (.ireturn, 1) := by decide +kernel
theorem d_Tr_count_182 : decode b_Tr_count 182 = .ok (.aload_n 0, 1) := by decide +kernel
theorem d_Tr_count_183 : decode b_Tr_count 183 = .ok (.invokevirtual 97, 3) := by decide +kernel
theorem d_Tr_count_186 : decode b_Tr_count 186 = .ok (.ireturn, 1) := by decide +kernel
theorem d_Tr_count_187 : decode b_Tr_count 187 = .ok (.aload_n 0, 1) := by decide +kernel
theorem d_Tr_count_188 : decode b_Tr_count 188 = .ok (.getfield 26, 3) := by decide +kernel
theorem d_Tr_count_191 : decode b_Tr_count 191 = .ok (.getfield 163, 3) := by decide +kernel
theorem d_Tr_count_194 : decode b_Tr_count 194 = .ok (.getfield 167, 3) := by decide +kernel
theorem d_Tr_count_197 : decode b_Tr_count 197 = .ok (.ireturn, 1) := by decide +kernel
theorem d_Tr_count_198 : decode b_Tr_count 198 = .ok (.aload_n 0, 1) := by decide +kernel
theorem d_Tr_count_199 : decode b_Tr_count 199 = .ok (.getfield 26, 3) := by decide +kernel
theorem d_Tr_count_202 : decode b_Tr_count 202 = .ok (.getfield 163, 3) := by decide +kernel
theorem d_Tr_count_205 : decode b_Tr_count 205 = .ok (.getfield 188, 3) := by decide +kernel
theorem d_Tr_count_208 : decode b_Tr_count 208 = .ok (.ireturn, 1) := by decide +kernel
theorem d_Tr_count_209 : decode b_Tr_count 209 = .ok (.aload_n 0, 1) := by decide +kernel
theorem d_Tr_count_210 : decode b_Tr_count 210 = .ok (.getfield 26, 3) := by decide +kernel
theorem d_Tr_count_213 : decode b_Tr_count 213 = .ok (.getfield 191, 3) := by decide +kernel
theorem d_Tr_count_216 : decode b_Tr_count 216 = .ok (.ireturn, 1) := by decide +kernel
theorem d_Tr_count_217 : decode b_Tr_count 217 = .ok (.aload_n 0, 1) := by decide +kernel
theorem d_Tr_count_218 : decode b_Tr_count 218 = .ok (.getfield 121, 3) := by decide +kernel
theorem d_Tr_count_221 : decode b_Tr_count 221 = .ok (.ireturn, 1) := by decide +kernel
theorem d_Tr_count_222 : decode b_Tr_count 222 = .ok (.bipush (-2), 2) := by decide +kernel
theorem d_Tr_count_224 : decode b_Tr_count 224 = .ok (.ireturn, 1) := by decide +kernel
theorem d_Tr_rulesThere_0 : decode b_Tr_rulesThere 0 = .ok (.iconst 0, 1) := by decide +kernel
theorem d_Tr_rulesThere_1 : decode b_Tr_rulesThere 1 = .ok (.istore_n 1, 1) := by decide +kernel
theorem d_Tr_rulesThere_2 : decode b_Tr_rulesThere 2 = .ok (.iconst 0, 1) := by decide +kernel
theorem d_Tr_rulesThere_3 : decode b_Tr_rulesThere 3 = .ok (.istore_n 2, 1) := by decide +kernel
theorem d_Tr_rulesThere_4 : decode b_Tr_rulesThere 4 = .ok (.iload_n 2, 1) := by decide +kernel
theorem d_Tr_rulesThere_5 : decode b_Tr_rulesThere 5 = .ok (.bipush 6, 2) := by decide +kernel
theorem d_Tr_rulesThere_7 : decode b_Tr_rulesThere 7 = .ok (.if_icmp .ge 29, 3) := by decide +kernel
theorem d_Tr_rulesThere_10 : decode b_Tr_rulesThere 10 = .ok (.iload_n 1, 1) := by decide +kernel
theorem d_Tr_rulesThere_11 : decode b_Tr_rulesThere 11 = .ok (.aload_n 0, 1) := by decide +kernel
theorem d_Tr_rulesThere_12 : decode b_Tr_rulesThere 12 = .ok (.getfield 18, 3) := by decide +kernel
theorem d_Tr_rulesThere_15 : decode b_Tr_rulesThere 15 = .ok (.iload_n 2, 1) := by decide +kernel
theorem d_Tr_rulesThere_16 : decode b_Tr_rulesThere 16 = .ok (.aaload, 1) := by decide +kernel
theorem d_Tr_rulesThere_17 : decode b_Tr_rulesThere 17 = .ok (.getfield 82, 3) := by decide +kernel
theorem d_Tr_rulesThere_20 : decode b_Tr_rulesThere 20 = .ok (.ifCond .eq 7, 3) := by decide +kernel
theorem d_Tr_rulesThere_23 : decode b_Tr_rulesThere 23 = .ok (.iconst 1, 1) := by decide +kernel
theorem d_Tr_rulesThere_24 : decode b_Tr_rulesThere 24 = .ok (.goto 4, 3) := by decide +kernel
theorem d_Tr_rulesThere_27 : decode b_Tr_rulesThere 27 = .ok (.iconst 0, 1) := by decide +kernel
theorem d_Tr_rulesThere_28 : decode b_Tr_rulesThere 28 = .ok (.iadd, 1) := by decide +kernel
theorem d_Tr_rulesThere_29 : decode b_Tr_rulesThere 29 = .ok (.istore_n 1, 1) := by decide +kernel
theorem d_Tr_rulesThere_30 : decode b_Tr_rulesThere 30 = .ok (.iinc 2 1, 3) := by decide +kernel
theorem d_Tr_rulesThere_33 : decode b_Tr_rulesThere 33 = .ok (.goto (-29), 3) := by decide +kernel
theorem d_Tr_rulesThere_36 : decode b_Tr_rulesThere 36 = .ok (.iload_n 1, 1) := by decide +kernel
theorem d_Tr_rulesThere_37 : decode b_Tr_rulesThere 37 = .ok (.ireturn, 1) := by decide +kernel
theorem d_Tr_rulesOn_0 : decode b_Tr_rulesOn 0 = .ok (.iconst 0, 1) := by decide +kernel
theorem d_Tr_rulesOn_1 : decode b_Tr_rulesOn 1 = .ok (.istore_n 1, 1) := by decide +kernel
theorem d_Tr_rulesOn_2 : decode b_Tr_rulesOn 2 = .ok (.iconst 0, 1) := by decide +kernel
theorem d_Tr_rulesOn_3 : decode b_Tr_rulesOn 3 = .ok (.istore_n 2, 1) := by decide +kernel
theorem d_Tr_rulesOn_4 : decode b_Tr_rulesOn 4 = .ok (.iload_n 2, 1) := by decide +kernel
theorem d_Tr_rulesOn_5 : decode b_Tr_rulesOn 5 = .ok (.bipush 6, 2) := by decide +kernel
theorem d_Tr_rulesOn_7 : decode b_Tr_rulesOn 7 = .ok (.if_icmp .ge 29, 3) := by decide +kernel
theorem d_Tr_rulesOn_10 : decode b_Tr_rulesOn 10 = .ok (.iload_n 1, 1) := by decide +kernel
theorem d_Tr_rulesOn_11 : decode b_Tr_rulesOn 11 = .ok (.aload_n 0, 1) := by decide +kernel
theorem d_Tr_rulesOn_12 : decode b_Tr_rulesOn 12 = .ok (.getfield 18, 3) := by decide +kernel
theorem d_Tr_rulesOn_15 : decode b_Tr_rulesOn 15 = .ok (.iload_n 2, 1) := by decide +kernel
theorem d_Tr_rulesOn_16 : decode b_Tr_rulesOn 16 = .ok (.aaload, 1) := by decide +kernel
theorem d_Tr_rulesOn_17 : decode b_Tr_rulesOn 17 = .ok (.getfield 94, 3) := by decide +kernel
theorem d_Tr_rulesOn_20 : decode b_Tr_rulesOn 20 = .ok (.ifCond .eq 7, 3) := by decide +kernel
theorem d_Tr_rulesOn_23 : decode b_Tr_rulesOn 23 = .ok (.iconst 1, 1) := by decide +kernel
theorem d_Tr_rulesOn_24 : decode b_Tr_rulesOn 24 = .ok (.goto 4, 3) := by decide +kernel
theorem d_Tr_rulesOn_27 : decode b_Tr_rulesOn 27 = .ok (.iconst 0, 1) := by decide +kernel
theorem d_Tr_rulesOn_28 : decode b_Tr_rulesOn 28 = .ok (.iadd, 1) := by decide +kernel
theorem d_Tr_rulesOn_29 : decode b_Tr_rulesOn 29 = .ok (.istore_n 1, 1) := by decide +kernel
theorem d_Tr_rulesOn_30 : decode b_Tr_rulesOn 30 = .ok (.iinc 2 1, 3) := by decide +kernel
theorem d_Tr_rulesOn_33 : decode b_Tr_rulesOn 33 = .ok (.goto (-29), 3) := by decide +kernel
theorem d_Tr_rulesOn_36 : decode b_Tr_rulesOn 36 = .ok (.iload_n 1, 1) := by decide +kernel
theorem d_Tr_rulesOn_37 : decode b_Tr_rulesOn 37 = .ok (.ireturn, 1) := by decide +kernel
theorem d_Tr_isWithin_0 : decode b_Tr_isWithin 0 = .ok (.iload_n 0, 1) := by decide +kernel
theorem d_Tr_isWithin_1 : decode b_Tr_isWithin 1 = .ok (.ifCond .lt 12, 3) := by decide +kernel
theorem d_Tr_isWithin_4 : decode b_Tr_isWithin 4 = .ok (.iload_n 0, 1) := by decide +kernel
theorem d_Tr_isWithin_5 : decode b_Tr_isWithin 5 = .ok (.iload_n 1, 1) := by decide +kernel
theorem d_Tr_isWithin_6 : decode b_Tr_isWithin 6 = .ok (.if_icmp .ge 7, 3) := by decide +kernel
theorem d_Tr_isWithin_9 : decode b_Tr_isWithin 9 = .ok (.iconst 1, 1) := by decide +kernel
theorem d_Tr_isWithin_10 : decode b_Tr_isWithin 10 = .ok (.goto 4, 3) := by decide +kernel
theorem d_Tr_isWithin_13 : decode b_Tr_isWithin 13 = .ok (.iconst 0, 1) := by decide +kernel
theorem d_Tr_isWithin_14 : decode b_Tr_isWithin 14 = .ok (.ireturn, 1) := by decide +kernel
theorem d_Tr_mayBeHanded_0 : decode b_Tr_mayBeHanded 0 = .ok (.dload_n 0, 1) := by decide +kernel
theorem d_Tr_mayBeHanded_1 : decode b_Tr_mayBeHanded 1 = .ok (.ldc2_w 194, 3) := by decide +kernel
theorem d_Tr_mayBeHanded_4 : decode b_Tr_mayBeHanded 4 = .ok (.dcmp .l, 1) := by decide +kernel
theorem d_Tr_mayBeHanded_5 : decode b_Tr_mayBeHanded 5 = .ok (.ifCond .lt 15, 3) := by decide +kernel
theorem d_Tr_mayBeHanded_8 : decode b_Tr_mayBeHanded 8 = .ok (.dload_n 0, 1) := by decide +kernel
theorem d_Tr_mayBeHanded_9 : decode b_Tr_mayBeHanded 9 = .ok (.ldc2_w 196, 3) := by decide +kernel
theorem d_Tr_mayBeHanded_12 : decode b_Tr_mayBeHanded 12 = .ok (.dcmp .g, 1) := by decide +kernel
theorem d_Tr_mayBeHanded_13 : decode b_Tr_mayBeHanded 13 = .ok (.ifCond .gt 7, 3) := by decide +kernel
theorem d_Tr_mayBeHanded_16 : decode b_Tr_mayBeHanded 16 = .ok (.iconst 1, 1) := by decide +kernel
theorem d_Tr_mayBeHanded_17 : decode b_Tr_mayBeHanded 17 = .ok (.goto 4, 3) := by decide +kernel
theorem d_Tr_mayBeHanded_20 : decode b_Tr_mayBeHanded 20 = .ok (.iconst 0, 1) := by decide +kernel
theorem d_Tr_mayBeHanded_21 : decode b_Tr_mayBeHanded 21 = .ok (.ireturn, 1) := by decide +kernel
