theorem d_Rn_init_0 : decode b_Rn_init 0 = .ok (.aload_n 0, 1) := by decide +kernel
theorem d_Rn_init_1 : decode b_Rn_init 1 = .ok (.invokespecial 3, 3) := by decide +kernel
theorem d_Rn_init_4 : decode b_Rn_init 4 = .ok (.aload_n 0, 1) := by decide +kernel
theorem d_Rn_init_5 : decode b_Rn_init 5 = .ok (.bipush 48, 2) := by decide +kernel
theorem d_Rn_init_7 : decode b_Rn_init 7 = .ok (.newarray .double, 2) := by decide +kernel
theorem d_Rn_init_9 : decode b_Rn_init 9 = .ok (.putfield 9, 3) := by decide +kernel
theorem d_Rn_init_12 : decode b_Rn_init 12 = .ok (.aload_n 0, 1) := by decide +kernel
theorem d_Rn_init_13 : decode b_Rn_init 13 = .ok (.bipush 15, 2) := by decide +kernel
theorem d_Rn_init_15 : decode b_Rn_init 15 = .ok (.newarray .double, 2) := by decide +kernel
theorem d_Rn_init_17 : decode b_Rn_init 17 = .ok (.putfield 15, 3) := by decide +kernel
theorem d_Rn_init_20 : decode b_Rn_init 20 = .ok (.aload_n 0, 1) := by decide +kernel
theorem d_Rn_init_21 : decode b_Rn_init 21 = .ok (.iconst 3, 1) := by decide +kernel
theorem d_Rn_init_22 : decode b_Rn_init 22 = .ok (.anewarray 18, 3) := by decide +kernel
theorem d_Rn_init_25 : decode b_Rn_init 25 = .ok (.putfield 20, 3) := by decide +kernel
theorem d_Rn_init_28 : decode b_Rn_init 28 = .ok (.aload_n 0, 1) := by decide +kernel
theorem d_Rn_init_29 : decode b_Rn_init 29 = .ok (.new 24, 3) := by decide +kernel
theorem d_Rn_init_32 : decode b_Rn_init 32 = .ok (.dup, 1) := by decide +kernel
theorem d_Rn_init_33 : decode b_Rn_init 33 = .ok (.invokespecial 26, 3) := by decide +kernel
theorem d_Rn_init_36 : decode b_Rn_init 36 = .ok (.putfield 27, 3) := by decide +kernel
theorem d_Rn_init_39 : decode b_Rn_init 39 = .ok (.aload_n 0, 1) := by decide +kernel
theorem d_Rn_init_40 : decode b_Rn_init 40 = .ok (.iconst 0, 1) := by decide +kernel
theorem d_Rn_init_41 : decode b_Rn_init 41 = .ok (.putfield 31, 3) := by decide +kernel
theorem d_Rn_init_44 : decode b_Rn_init 44 = .ok (.aload_n 0, 1) := by decide +kernel
theorem d_Rn_init_45 : decode b_Rn_init 45 = .ok (.iconst 0, 1) := by decide +kernel
theorem d_Rn_init_46 : decode b_Rn_init 46 = .ok (.putfield 35, 3) := by decide +kernel
theorem d_Rn_init_49 : decode b_Rn_init 49 = .ok (.aload_n 0, 1) := by decide +kernel
theorem d_Rn_init_50 : decode b_Rn_init 50 = .ok (.iconst 0, 1) := by decide +kernel
theorem d_Rn_init_51 : decode b_Rn_init 51 = .ok (.putfield 38, 3) := by decide +kernel
theorem d_Rn_init_54 : decode b_Rn_init 54 = .ok (.aload_n 0, 1) := by decide +kernel
theorem d_Rn_init_55 : decode b_Rn_init 55 = .ok (.dconst 0, 1) := by decide +kernel
theorem d_Rn_init_56 : decode b_Rn_init 56 = .ok (.putfield 41, 3) := by decide +kernel
theorem d_Rn_init_59 : decode b_Rn_init 59 = .ok (.aload_n 0, 1) := by decide +kernel
theorem d_Rn_init_60 : decode b_Rn_init 60 = .ok (.dconst 0, 1) := by decide +kernel
theorem d_Rn_init_61 : decode b_Rn_init 61 = .ok (.putfield 45, 3) := by decide +kernel
theorem d_Rn_init_64 : decode b_Rn_init 64 = .ok (.aload_n 0, 1) := by decide +kernel
theorem d_Rn_init_65 : decode b_Rn_init 65 = .ok (.dconst 0, 1) := by decide +kernel
theorem d_Rn_init_66 : decode b_Rn_init 66 = .ok (.putfield 48, 3) := by decide +kernel
theorem d_Rn_init_69 : decode b_Rn_init 69 = .ok (.aload_n 0, 1) := by decide +kernel
theorem d_Rn_init_70 : decode b_Rn_init 70 = .ok (.iconst 0, 1) := by decide +kernel
theorem d_Rn_init_71 : decode b_Rn_init 71 = .ok (.putfield 51, 3) := by decide +kernel
theorem d_Rn_init_74 : decode b_Rn_init 74 = .ok (.aload_n 0, 1) := by decide +kernel
theorem d_Rn_init_75 : decode b_Rn_init 75 = .ok (.iconst 0, 1) := by decide +kernel
theorem d_Rn_init_76 : decode b_Rn_init 76 = .ok (.putfield 54, 3) := by decide +kernel
theorem d_Rn_init_79 : decode b_Rn_init 79 = .ok (.aload_n 0, 1) := by decide +kernel
theorem d_Rn_init_80 : decode b_Rn_init 80 = .ok (.iconst 0, 1) := by decide +kernel
theorem d_Rn_init_81 : decode b_Rn_init 81 = .ok (.putfield 58, 3) := by decide +kernel
theorem d_Rn_init_84 : decode b_Rn_init 84 = .ok (.aload_n 0, 1) := by decide +kernel
theorem d_Rn_init_85 : decode b_Rn_init 85 = .ok (.iconst 0, 1) := by decide +kernel
theorem d_Rn_init_86 : decode b_Rn_init 86 = .ok (.putfield 61, 3) := by decide +kernel
theorem d_Rn_init_89 : decode b_Rn_init 89 = .ok (.iconst 0, 1) := by decide +kernel
theorem d_Rn_init_90 : decode b_Rn_init 90 = .ok (.istore_n 1, 1) := by decide +kernel
theorem d_Rn_init_91 : decode b_Rn_init 91 = .ok (.iload_n 1, 1) := by decide +kernel
theorem d_Rn_init_92 : decode b_Rn_init 92 = .ok (.iconst 3, 1) := by decide +kernel
theorem d_Rn_init_93 : decode b_Rn_init 93 = .ok (.if_icmp .ge 22, 3) := by decide +kernel
theorem d_Rn_init_96 : decode b_Rn_init 96 = .ok (.aload_n 0, 1) := by decide +kernel
theorem d_Rn_init_97 : decode b_Rn_init 97 = .ok (.getfield 20, 3) := by decide +kernel
theorem d_Rn_init_100 : decode b_Rn_init 100 = .ok (.iload_n 1, 1) := by decide +kernel
theorem d_Rn_init_101 : decode b_Rn_init 101 = .ok (.new 18, 3) := by decide +kernel
theorem d_Rn_init_104 : decode b_Rn_init 104 = .ok (.dup, 1) := by decide +kernel
theorem d_Rn_init_105 : decode b_Rn_init 105 = .ok (.invokespecial 64, 3) := by decide +kernel
theorem d_Rn_init_108 : decode b_Rn_init 108 = .ok (.aastore, 1) := by decide +kernel
theorem d_Rn_init_109 : decode b_Rn_init 109 = .ok (.iinc 1 1, 3) := by decide +kernel
theorem d_Rn_init_112 : decode b_Rn_init 112 = .ok (.goto (-21), 3) := by decide +kernel
theorem d_Rn_init_115 : decode b_Rn_init 115 = .ok (.return_, 1) := by decide +kernel
theorem d_Rn_hand_0 : decode b_Rn_hand 0 = .ok (.aload_n 0, 1) := by decide +kernel
theorem d_Rn_hand_1 : decode b_Rn_hand 1 = .ok (.iload_n 1, 1) := by decide +kernel
theorem d_Rn_hand_2 : decode b_Rn_hand 2 = .ok (.putfield 38, 3) := by decide +kernel
theorem d_Rn_hand_5 : decode b_Rn_hand 5 = .ok (.aload_n 0, 1) := by decide +kernel
theorem d_Rn_hand_6 : decode b_Rn_hand 6 = .ok (.dload_n 2, 1) := by decide +kernel
theorem d_Rn_hand_7 : decode b_Rn_hand 7 = .ok (.putfield 41, 3) := by decide +kernel
theorem d_Rn_hand_10 : decode b_Rn_hand 10 = .ok (.aload_n 0, 1) := by decide +kernel
theorem d_Rn_hand_11 : decode b_Rn_hand 11 = .ok (.dload 4, 2) := by decide +kernel
theorem d_Rn_hand_13 : decode b_Rn_hand 13 = .ok (.putfield 45, 3) := by decide +kernel
theorem d_Rn_hand_16 : decode b_Rn_hand 16 = .ok (.aload_n 0, 1) := by decide +kernel
theorem d_Rn_hand_17 : decode b_Rn_hand 17 = .ok (.dload 6, 2) := by decide +kernel
theorem d_Rn_hand_19 : decode b_Rn_hand 19 = .ok (.putfield 48, 3) := by decide +kernel
theorem d_Rn_hand_22 : decode b_Rn_hand 22 = .ok (.return_, 1) := by decide +kernel
theorem d_Rn_run_0 : decode b_Rn_run 0 = .ok (.aload_n 0, 1) := by decide +kernel
theorem d_Rn_run_1 : decode b_Rn_run 1 = .ok (.iconst 0, 1) := by decide +kernel
theorem d_Rn_run_2 : decode b_Rn_run 2 = .ok (.putfield 51, 3) := by decide +kernel
theorem d_Rn_run_5 : decode b_Rn_run 5 = .ok (.aload_n 0, 1) := by decide +kernel
theorem d_Rn_run_6 : decode b_Rn_run 6 = .ok (.iconst 0, 1) := by decide +kernel
theorem d_Rn_run_7 : decode b_Rn_run 7 = .ok (.putfield 54, 3) := by decide +kernel
theorem d_Rn_run_10 : decode b_Rn_run 10 = .ok (.aload_n 0, 1) := by decide +kernel
theorem d_Rn_run_11 : decode b_Rn_run 11 = .ok (.iconst 0, 1) := by decide +kernel
theorem d_Rn_run_12 : decode b_Rn_run 12 = .ok (.putfield 58, 3) := by decide +kernel
theorem d_Rn_run_15 : decode b_Rn_run 15 = .ok (.aload_n 0, 1) := by decide +kernel
theorem d_Rn_run_16 : decode b_Rn_run 16 = .ok (.aload_n 1, 1) := by decide +kernel
theorem d_Rn_run_17 : decode b_Rn_run 17 = .ok (.getfield 65, 3) := by decide +kernel
theorem d_Rn_run_20 : decode b_Rn_run 20 = .ok (.ifCond .ne 7, 3) := by decide +kernel
theorem d_Rn_run_23 : decode b_Rn_run 23 = .ok (.iconst 1, 1) := by decide +kernel
theorem d_Rn_run_24 : decode b_Rn_run 24 = .ok (.goto 4, 3) := by decide +kernel
theorem d_Rn_run_27 : decode b_Rn_run 27 = .ok (.iconst 0, 1) := by decide +kernel
theorem d_Rn_run_28 : decode b_Rn_run 28 = .ok (.putfield 61, 3) := by decide +kernel
theorem d_Rn_run_31 : decode b_Rn_run 31 = .ok (.iconst 0, 1) := by decide +kernel
theorem d_Rn_run_32 : decode b_Rn_run 32 = .ok (.istore_n 2, 1) := by decide +kernel
theorem d_Rn_run_33 : decode b_Rn_run 33 = .ok (.iload_n 2, 1) := by decide +kernel
theorem d_Rn_run_34 : decode b_Rn_run 34 = .ok (.aload_n 1, 1) := by decide +kernel
theorem d_Rn_run_35 : decode b_Rn_run 35 = .ok (.getfield 70, 3) := by decide +kernel
theorem d_Rn_run_38 : decode b_Rn_run 38 = .ok (.if_icmp .ge 35, 3) := by decide +kernel
theorem d_Rn_run_41 : decode b_Rn_run 41 = .ok (.iload_n 2, 1) := by decide +kernel
theorem d_Rn_run_42 : decode b_Rn_run 42 = .ok (.aload_n 1, 1) := by decide +kernel
theorem d_Rn_run_43 : decode b_Rn_run 43 = .ok (.getfield 73, 3) := by decide +kernel
theorem d_Rn_run_46 : decode b_Rn_run 46 = .ok (.arraylength, 1) := by decide +kernel
theorem d_Rn_run_47 : decode b_Rn_run 47 = .ok (.if_icmp .ge 26, 3) := by decide +kernel
theorem d_Rn_run_50 : decode b_Rn_run 50 = .ok (.aload_n 0, 1) := by decide +kernel
theorem d_Rn_run_51 : decode b_Rn_run 51 = .ok (.getfield 54, 3) := by decide +kernel
theorem d_Rn_run_54 : decode b_Rn_run 54 = .ok (.ifCond .ne 19, 3) := by decide +kernel
theorem d_Rn_run_57 : decode b_Rn_run 57 = .ok (.aload_n 0, 1) := by decide +kernel
theorem d_Rn_run_58 : decode b_Rn_run 58 = .ok (.aload_n 1, 1) := by decide +kernel
theorem d_Rn_run_59 : decode b_Rn_run 59 = .ok (.getfield 73, 3) := by decide +kernel
theorem d_Rn_run_62 : decode b_Rn_run 62 = .ok (.iload_n 2, 1) := by decide +kernel
theorem d_Rn_run_63 : decode b_Rn_run 63 = .ok (.iaload, 1) := by decide +kernel
theorem d_Rn_run_64 : decode b_Rn_run 64 = .ok (.invokevirtual 77, 3) := by decide +kernel
theorem d_Rn_run_67 : decode b_Rn_run 67 = .ok (.iinc 2 1, 3) := by decide +kernel
theorem d_Rn_run_70 : decode b_Rn_run 70 = .ok (.goto (-37), 3) := by decide +kernel
theorem d_Rn_run_73 : decode b_Rn_run 73 = .ok (.aload_n 1, 1) := by decide +kernel
theorem d_Rn_run_74 : decode b_Rn_run 74 = .ok (.dup, 1) := by decide +kernel
theorem d_Rn_run_75 : decode b_Rn_run 75 = .ok (.getfield 81, 3) := by decide +kernel
theorem d_Rn_run_78 : decode b_Rn_run 78 = .ok (.aload_n 0, 1) := by decide +kernel
theorem d_Rn_run_79 : decode b_Rn_run 79 = .ok (.getfield 58, 3) := by decide +kernel
theorem d_Rn_run_82 : decode b_Rn_run 82 = .ok (.ifCond .eq 7, 3) := by decide +kernel
theorem d_Rn_run_85 : decode b_Rn_run 85 = .ok (.iconst 1, 1) := by decide +kernel
theorem d_Rn_run_86 : decode b_Rn_run 86 = .ok (.goto 4, 3) := by decide +kernel
theorem d_Rn_run_89 : decode b_Rn_run 89 = .ok (.iconst 0, 1) := by decide +kernel
theorem d_Rn_run_90 : decode b_Rn_run 90 = .ok (.iadd, 1) := by decide +kernel
theorem d_Rn_run_91 : decode b_Rn_run 91 = .ok (.putfield 81, 3) := by decide +kernel
theorem d_Rn_run_94 : decode b_Rn_run 94 = .ok (.aload_n 1, 1) := by decide +kernel
theorem d_Rn_run_95 : decode b_Rn_run 95 = .ok (.dup, 1) := by decide +kernel
theorem d_Rn_run_96 : decode b_Rn_run 96 = .ok (.getfield 84, 3) := by decide +kernel
theorem d_Rn_run_99 : decode b_Rn_run 99 = .ok (.aload_n 0, 1) := by decide +kernel
theorem d_Rn_run_100 : decode b_Rn_run 100 = .ok (.getfield 61, 3) := by decide +kernel
theorem d_Rn_run_103 : decode b_Rn_run 103 = .ok (.ifCond .eq 7, 3) := by decide +kernel
theorem d_Rn_run_106 : decode b_Rn_run 106 = .ok (.iconst 1, 1) := by decide +kernel
theorem d_Rn_run_107 : decode b_Rn_run 107 = .ok (.goto 4, 3) := by decide +kernel
theorem d_Rn_run_110 : decode b_Rn_run 110 = .ok (.iconst 0, 1) := by decide +kernel
theorem d_Rn_run_111 : decode b_Rn_run 111 = .ok (.iadd, 1) := by decide +kernel
theorem d_Rn_run_112 : decode b_Rn_run 112 = .ok (.putfield 84, 3) := by decide +kernel
theorem d_Rn_run_115 : decode b_Rn_run 115 = .ok (.aload_n 0, 1) := by decide +kernel
theorem d_Rn_run_116 : decode b_Rn_run 116 = .ok (.getfield 61, 3) := by decide +kernel
theorem d_Rn_run_119 : decode b_Rn_run 119 = .ok (.ireturn, 1) := by decide +kernel
theorem d_Rn_get_0 : decode b_Rn_get 0 = .ok (.iload_n 1, 1) := by decide +kernel
theorem d_Rn_get_1 : decode b_Rn_get 1 = .ok (.iload_n 2, 1) := by decide +kernel
theorem d_Rn_get_2 : decode b_Rn_get 2 = .ok (.invokestatic 87, 3) := by decide +kernel
theorem d_Rn_get_5 : decode b_Rn_get 5 = .ok (.istore_n 3, 1) := by decide +kernel
theorem d_Rn_get_6 : decode b_Rn_get 6 = .ok (.iload_n 3, 1) := by decide +kernel
theorem d_Rn_get_7 : decode b_Rn_get 7 = .ok (.aload_n 0, 1) := by decide +kernel
theorem d_Rn_get_8 : decode b_Rn_get 8 = .ok (.getfield 15, 3) := by decide +kernel
theorem d_Rn_get_11 : decode b_Rn_get 11 = .ok (.arraylength, 1) := by decide +kernel
theorem d_Rn_get_12 : decode b_Rn_get 12 = .ok (.invokestatic 91, 3) := by decide +kernel
theorem d_Rn_get_15 : decode b_Rn_get 15 = .ok (.ifCond .eq 12, 3) := by decide +kernel
theorem d_Rn_get_18 : decode b_Rn_get 18 = .ok (.aload_n 0, 1) := by decide +kernel
theorem d_Rn_get_19 : decode b_Rn_get 19 = .ok (.getfield 15, 3) := by decide +kernel
theorem d_Rn_get_22 : decode b_Rn_get 22 = .ok (.iload_n 3, 1) := by decide +kernel
theorem d_Rn_get_23 : decode b_Rn_get 23 = .ok (.daload, 1) := by decide +kernel
theorem d_Rn_get_24 : decode b_Rn_get 24 = .ok (.goto 4, 3) := by decide +kernel
theorem d_Rn_get_27 : decode b_Rn_get 27 = .ok (.dconst 0, 1) := by decide +kernel
theorem d_Rn_get_28 : decode b_Rn_get 28 = .ok (.dreturn, 1) := by decide +kernel
theorem d_Rn_doStep_0 : decode b_Rn_doStep 0 = .ok (.iload_n 1, 1) := by decide +kernel
theorem d_Rn_doStep_1 : decode b_Rn_doStep 1 = .ok (.sipush 256, 3) := by decide +kernel
theorem d_Rn_doStep_4 : decode b_Rn_doStep 4 = .ok (.if_icmp .lt 16, 3) := by decide +kernel
theorem d_Rn_doStep_7 : decode b_Rn_doStep 7 = .ok (.aload_n 0, 1) := by decide +kernel
theorem d_Rn_doStep_8 : decode b_Rn_doStep 8 = .ok (.iload_n 1, 1) := by decide +kernel
theorem d_Rn_doStep_9 : decode b_Rn_doStep 9 = .ok (.sipush 256, 3) := by decide +kernel
theorem d_Rn_doStep_12 : decode b_Rn_doStep 12 = .ok (.isub, 1) := by decide +kernel
theorem d_Rn_doStep_13 : decode b_Rn_doStep 13 = .ok (.i2d, 1) := by decide +kernel
theorem d_Rn_doStep_14 : decode b_Rn_doStep 14 = .ok (.invokevirtual 95, 3) := by decide +kernel
theorem d_Rn_doStep_17 : decode b_Rn_doStep 17 = .ok (.goto 94, 3) := by decide +kernel
theorem d_Rn_doStep_20 : decode b_Rn_doStep 20 = .ok (.iload_n 1, 1) := by decide +kernel
theorem d_Rn_doStep_21 : decode b_Rn_doStep 21 = .ok (.bipush 117, 2) := by decide +kernel
theorem d_Rn_doStep_23 : decode b_Rn_doStep 23 = .ok (.if_icmp .lt 28, 3) := by decide +kernel
theorem d_Rn_doStep_26 : decode b_Rn_doStep 26 = .ok (.iload_n 1, 1) := by decide +kernel
theorem d_Rn_doStep_27 : decode b_Rn_doStep 27 = .ok (.bipush 122, 2) := by decide +kernel
theorem d_Rn_doStep_29 : decode b_Rn_doStep 29 = .ok (.if_icmp .gt 22, 3) := by decide +kernel
theorem d_Rn_doStep_32 : decode b_Rn_doStep 32 = .ok (.aload_n 0, 1) := by decide +kernel
theorem d_Rn_doStep_33 : decode b_Rn_doStep 33 = .ok (.aload_n 0, 1) := by decide +kernel
theorem d_Rn_doStep_34 : decode b_Rn_doStep 34 = .ok (.iload_n 1, 1) := by decide +kernel
theorem d_Rn_doStep_35 : decode b_Rn_doStep 35 = .ok (.bipush 117, 2) := by decide +kernel
theorem d_Rn_doStep_37 : decode b_Rn_doStep 37 = .ok (.isub, 1) := by decide +kernel
theorem d_Rn_doStep_38 : decode b_Rn_doStep 38 = .ok (.aload_n 0, 1) := by decide +kernel
theorem d_Rn_doStep_39 : decode b_Rn_doStep 39 = .ok (.getfield 38, 3) := by decide +kernel
theorem d_Rn_doStep_42 : decode b_Rn_doStep 42 = .ok (.invokevirtual 99, 3) := by decide +kernel
theorem d_Rn_doStep_45 : decode b_Rn_doStep 45 = .ok (.invokevirtual 95, 3) := by decide +kernel
theorem d_Rn_doStep_48 : decode b_Rn_doStep 48 = .ok (.goto 63, 3) := by decide +kernel
theorem d_Rn_doStep_51 : decode b_Rn_doStep 51 = .ok (.iload_n 1, 1) := by decide +kernel
theorem d_Rn_doStep_52 : decode b_Rn_doStep 52 = .ok (.bipush 85, 2) := by decide +kernel
theorem d_Rn_doStep_54 : decode b_Rn_doStep 54 = .ok (.if_icmp .lt 24, 3) := by decide +kernel
theorem d_Rn_doStep_57 : decode b_Rn_doStep 57 = .ok (.iload_n 1, 1) := by decide +kernel
theorem d_Rn_doStep_58 : decode b_Rn_doStep 58 = .ok (.bipush 91, 2) := by decide +kernel
theorem d_Rn_doStep_60 : decode b_Rn_doStep 60 = .ok (.if_icmp .ge 18, 3) := by decide +kernel
theorem d_Rn_doStep_63 : decode b_Rn_doStep 63 = .ok (.aload_n 0, 1) := by decide +kernel
theorem d_Rn_doStep_64 : decode b_Rn_doStep 64 = .ok (.iload_n 1, 1) := by decide +kernel
theorem d_Rn_doStep_65 : decode b_Rn_doStep 65 = .ok (.bipush 85, 2) := by decide +kernel
theorem d_Rn_doStep_67 : decode b_Rn_doStep 67 = .ok (.isub, 1) := by decide +kernel
theorem d_Rn_doStep_68 : decode b_Rn_doStep 68 = .ok (.aload_n 0, 1) := by decide +kernel
theorem d_Rn_doStep_69 : decode b_Rn_doStep 69 = .ok (.invokevirtual 103, 3) := by decide +kernel
theorem d_Rn_doStep_72 : decode b_Rn_doStep 72 = .ok (.invokevirtual 107, 3) := by decide +kernel
theorem d_Rn_doStep_75 : decode b_Rn_doStep 75 = .ok (.goto 36, 3) := by decide +kernel
theorem d_Rn_doStep_78 : decode b_Rn_doStep 78 = .ok (.iload_n 1, 1) := by decide +kernel
theorem d_Rn_doStep_79 : decode b_Rn_doStep 79 = .ok (.bipush 65, 2) := by decide +kernel
theorem d_Rn_doStep_81 : decode b_Rn_doStep 81 = .ok (.if_icmp .lt 25, 3) := by decide +kernel
theorem d_Rn_doStep_84 : decode b_Rn_doStep 84 = .ok (.iload_n 1, 1) := by decide +kernel
theorem d_Rn_doStep_85 : decode b_Rn_doStep 85 = .ok (.bipush 68, 2) := by decide +kernel
theorem d_Rn_doStep_87 : decode b_Rn_doStep 87 = .ok (.if_icmp .ge 19, 3) := by decide +kernel
theorem d_Rn_doStep_90 : decode b_Rn_doStep 90 = .ok (.aload_n 0, 1) := by decide +kernel
theorem d_Rn_doStep_91 : decode b_Rn_doStep 91 = .ok (.aload_n 0, 1) := by decide +kernel
theorem d_Rn_doStep_92 : decode b_Rn_doStep 92 = .ok (.getfield 20, 3) := by decide +kernel
theorem d_Rn_doStep_95 : decode b_Rn_doStep 95 = .ok (.iload_n 1, 1) := by decide +kernel
theorem d_Rn_doStep_96 : decode b_Rn_doStep 96 = .ok (.bipush 65, 2) := by decide +kernel
theorem d_Rn_doStep_98 : decode b_Rn_doStep 98 = .ok (.isub, 1) := by decide +kernel
theorem d_Rn_doStep_99 : decode b_Rn_doStep 99 = .ok (.aaload, 1) := by decide +kernel
theorem d_Rn_doStep_100 : decode b_Rn_doStep 100 = .ok (.invokevirtual 111, 3) := by decide +kernel
theorem d_Rn_doStep_103 : decode b_Rn_doStep 103 = .ok (.goto 8, 3) := by decide +kernel
theorem d_Rn_doStep_106 : decode b_Rn_doStep 106 = .ok (.aload_n 0, 1) := by decide +kernel
theorem d_Rn_doStep_107 : decode b_Rn_doStep 107 = .ok (.iload_n 1, 1) := by decide +kernel
theorem d_Rn_doStep_108 : decode b_Rn_doStep 108 = .ok (.invokevirtual 115, 3) := by decide +kernel
theorem d_Rn_doStep_111 : decode b_Rn_doStep 111 = .ok (.return_, 1) := by decide +kernel
theorem d_Rn_doCharacter_0 : decode b_Rn_doCharacter 0 = .ok (.iload_n 1, 1) := by decide +kernel
theorem d_Rn_doCharacter_1 : decode b_Rn_doCharacter 1 = .ok (.lookupswitch 224 #[(33, 210), (47, 152), (63, 189), (97, 83), (98, 94), (99, 105), (107, 128), (116, 116), (126, 140)], 83) := by decide +kernel
theorem d_Rn_doCharacter_84 : decode b_Rn_doCharacter 84 = .ok (.aload_n 0, 1) := by decide +kernel
theorem d_Rn_doCharacter_85 : decode b_Rn_doCharacter 85 = .ok (.aload_n 0, 1) := by decide +kernel
theorem d_Rn_doCharacter_86 : decode b_Rn_doCharacter 86 = .ok (.getfield 41, 3) := by decide +kernel
theorem d_Rn_doCharacter_89 : decode b_Rn_doCharacter 89 = .ok (.invokevirtual 95, 3) := by decide +kernel
theorem d_Rn_doCharacter_92 : decode b_Rn_doCharacter 92 = .ok (.goto 138, 3) := by decide +kernel
theorem d_Rn_doCharacter_95 : decode b_Rn_doCharacter 95 = .ok (.aload_n 0, 1) := by decide +kernel
theorem d_Rn_doCharacter_96 : decode b_Rn_doCharacter 96 = .ok (.aload_n 0, 1) := by decide +kernel
theorem d_Rn_doCharacter_97 : decode b_Rn_doCharacter 97 = .ok (.getfield 45, 3) := by decide +kernel
theorem d_Rn_doCharacter_100 : decode b_Rn_doCharacter 100 = .ok (.invokevirtual 95, 3) := by decide +kernel
theorem d_Rn_doCharacter_103 : decode b_Rn_doCharacter 103 = .ok (.goto 127, 3) := by decide +kernel
theorem d_Rn_doCharacter_106 : decode b_Rn_doCharacter 106 = .ok (.aload_n 0, 1) := by decide +kernel
theorem d_Rn_doCharacter_107 : decode b_Rn_doCharacter 107 = .ok (.aload_n 0, 1) := by decide +kernel
theorem d_Rn_doCharacter_108 : decode b_Rn_doCharacter 108 = .ok (.getfield 48, 3) := by decide +kernel
theorem d_Rn_doCharacter_111 : decode b_Rn_doCharacter 111 = .ok (.invokevirtual 95, 3) := by decide +kernel
theorem d_Rn_doCharacter_114 : decode b_Rn_doCharacter 114 = .ok (.goto 116, 3) := by decide +kernel
theorem d_Rn_doCharacter_117 : decode b_Rn_doCharacter 117 = .ok (.aload_n 0, 1) := by decide +kernel
theorem d_Rn_doCharacter_118 : decode b_Rn_doCharacter 118 = .ok (.aload_n 0, 1) := by decide +kernel
theorem d_Rn_doCharacter_119 : decode b_Rn_doCharacter 119 = .ok (.getfield 31, 3) := by decide +kernel
theorem d_Rn_doCharacter_122 : decode b_Rn_doCharacter 122 = .ok (.i2d, 1) := by decide +kernel
theorem d_Rn_doCharacter_123 : decode b_Rn_doCharacter 123 = .ok (.invokevirtual 95, 3) := by decide +kernel
theorem d_Rn_doCharacter_126 : decode b_Rn_doCharacter 126 = .ok (.goto 104, 3) := by decide +kernel
theorem d_Rn_doCharacter_129 : decode b_Rn_doCharacter 129 = .ok (.aload_n 0, 1) := by decide +kernel
theorem d_Rn_doCharacter_130 : decode b_Rn_doCharacter 130 = .ok (.aload_n 0, 1) := by decide +kernel
theorem d_Rn_doCharacter_131 : decode b_Rn_doCharacter 131 = .ok (.getfield 38, 3) := by decide +kernel
theorem d_Rn_doCharacter_134 : decode b_Rn_doCharacter 134 = .ok (.i2d, 1) := by decide +kernel
theorem d_Rn_doCharacter_135 : decode b_Rn_doCharacter 135 = .ok (.invokevirtual 95, 3) := by decide +kernel
theorem d_Rn_doCharacter_138 : decode b_Rn_doCharacter 138 = .ok (.goto 92, 3) := by decide +kernel
theorem d_Rn_doCharacter_141 : decode b_Rn_doCharacter 141 = .ok (.aload_n 0, 1) := by decide +kernel
theorem d_Rn_doCharacter_142 : decode b_Rn_doCharacter 142 = .ok (.aload_n 0, 1) := by decide +kernel
theorem d_Rn_doCharacter_143 : decode b_Rn_doCharacter 143 = .ok (.invokevirtual 103, 3) := by decide +kernel
theorem d_Rn_doCharacter_146 : decode b_Rn_doCharacter 146 = .ok (.dneg, 1) := by decide +kernel
theorem d_Rn_doCharacter_147 : decode b_Rn_doCharacter 147 = .ok (.invokevirtual 95, 3) := by decide +kernel
theorem d_Rn_doCharacter_150 : decode b_Rn_doCharacter 150 = .ok (.goto 80, 3) := by decide +kernel
theorem d_Rn_doCharacter_153 : decode b_Rn_doCharacter 153 = .ok (.aload_n 0, 1) := by decide +kernel
theorem d_Rn_doCharacter_154 : decode b_Rn_doCharacter 154 = .ok (.aload_n 0, 1) := by decide +kernel
theorem d_Rn_doCharacter_155 : decode b_Rn_doCharacter 155 = .ok (.invokevirtual 103, 3) := by decide +kernel
theorem d_Rn_doCharacter_158 : decode b_Rn_doCharacter 158 = .ok (.dconst 0, 1) := by decide +kernel
theorem d_Rn_doCharacter_159 : decode b_Rn_doCharacter 159 = .ok (.dcmp .l, 1) := by decide +kernel
theorem d_Rn_doCharacter_160 : decode b_Rn_doCharacter 160 = .ok (.ifCond .eq 7, 3) := by decide +kernel
theorem d_Rn_doCharacter_163 : decode b_Rn_doCharacter 163 = .ok (.iconst 1, 1) := by decide +kernel
theorem d_Rn_doCharacter_164 : decode b_Rn_doCharacter 164 = .ok (.goto 4, 3) := by decide +kernel
theorem d_Rn_doCharacter_167 : decode b_Rn_doCharacter 167 = .ok (.iconst 0, 1) := by decide +kernel
theorem d_Rn_doCharacter_168 : decode b_Rn_doCharacter 168 = .ok (.putfield 61, 3) := by decide +kernel
theorem d_Rn_doCharacter_171 : decode b_Rn_doCharacter 171 = .ok (.aload_n 0, 1) := by decide +kernel
theorem d_Rn_doCharacter_172 : decode b_Rn_doCharacter 172 = .ok (.aload_n 0, 1) := by decide +kernel
theorem d_Rn_doCharacter_173 : decode b_Rn_doCharacter 173 = .ok (.getfield 61, 3) := by decide +kernel
theorem d_Rn_doCharacter_176 : decode b_Rn_doCharacter 176 = .ok (.ifCond .ne 7, 3) := by decide +kernel
theorem d_Rn_doCharacter_179 : decode b_Rn_doCharacter 179 = .ok (.iconst 1, 1) := by decide +kernel
theorem d_Rn_doCharacter_180 : decode b_Rn_doCharacter 180 = .ok (.goto 4, 3) := by decide +kernel
theorem d_Rn_doCharacter_183 : decode b_Rn_doCharacter 183 = .ok (.iconst 0, 1) := by decide +kernel
theorem d_Rn_doCharacter_184 : decode b_Rn_doCharacter 184 = .ok (.putfield 54, 3) := by decide +kernel
theorem d_Rn_doCharacter_187 : decode b_Rn_doCharacter 187 = .ok (.goto 43, 3) := by decide +kernel
theorem d_Rn_doCharacter_190 : decode b_Rn_doCharacter 190 = .ok (.aload_n 0, 1) := by decide +kernel
theorem d_Rn_doCharacter_191 : decode b_Rn_doCharacter 191 = .ok (.aload_n 0, 1) := by decide +kernel
theorem d_Rn_doCharacter_192 : decode b_Rn_doCharacter 192 = .ok (.invokevirtual 103, 3) := by decide +kernel
theorem d_Rn_doCharacter_195 : decode b_Rn_doCharacter 195 = .ok (.dconst 0, 1) := by decide +kernel
theorem d_Rn_doCharacter_196 : decode b_Rn_doCharacter 196 = .ok (.dcmp .l, 1) := by decide +kernel
theorem d_Rn_doCharacter_197 : decode b_Rn_doCharacter 197 = .ok (.ifCond .ne 7, 3) := by decide +kernel
theorem d_Rn_doCharacter_200 : decode b_Rn_doCharacter 200 = .ok (.iconst 1, 1) := by decide +kernel
theorem d_Rn_doCharacter_201 : decode b_Rn_doCharacter 201 = .ok (.goto 4, 3) := by decide +kernel
theorem d_Rn_doCharacter_204 : decode b_Rn_doCharacter 204 = .ok (.iconst 0, 1) := by decide +kernel
theorem d_Rn_doCharacter_205 : decode b_Rn_doCharacter 205 = .ok (.putfield 54, 3) := by decide +kernel
theorem d_Rn_doCharacter_208 : decode b_Rn_doCharacter 208 = .ok (.goto 22, 3) := by decide +kernel
theorem d_Rn_doCharacter_211 : decode b_Rn_doCharacter 211 = .ok (.aload_n 0, 1) := by decide +kernel
theorem d_Rn_doCharacter_212 : decode b_Rn_doCharacter 212 = .ok (.getfield 27, 3) := by decide +kernel
theorem d_Rn_doCharacter_215 : decode b_Rn_doCharacter 215 = .ok (.aload_n 0, 1) := by decide +kernel
theorem d_Rn_doCharacter_216 : decode b_Rn_doCharacter 216 = .ok (.invokevirtual 103, 3) := by decide +kernel
theorem d_Rn_doCharacter_219 : decode b_Rn_doCharacter 219 = .ok (.invokevirtual 118, 3) := by decide +kernel
theorem d_Rn_doCharacter_222 : decode b_Rn_doCharacter 222 = .ok (.goto 8, 3) := by decide +kernel
theorem d_Rn_doCharacter_225 : decode b_Rn_doCharacter 225 = .ok (.aload_n 0, 1) := by decide +kernel
theorem d_Rn_doCharacter_226 : decode b_Rn_doCharacter 226 = .ok (.iload_n 1, 1) := by decide +kernel
theorem d_Rn_doCharacter_227 : decode b_Rn_doCharacter 227 = .ok (.invokevirtual 121, 3) := by decide +kernel
theorem d_Rn_doCharacter_230 : decode b_Rn_doCharacter 230 = .ok (.return_, 1) := by decide +kernel
theorem d_Rn_operate_0 : decode b_Rn_operate 0 = .ok (.aload_n 0, 1) := by decide +kernel
theorem d_Rn_operate_1 : decode b_Rn_operate 1 = .ok (.invokevirtual 103, 3) := by decide +kernel
theorem d_Rn_operate_4 : decode b_Rn_operate 4 = .ok (.dstore_n 2, 1) := by decide +kernel
theorem d_Rn_operate_5 : decode b_Rn_operate 5 = .ok (.aload_n 0, 1) := by decide +kernel
theorem d_Rn_operate_6 : decode b_Rn_operate 6 = .ok (.invokevirtual 103, 3) := by decide +kernel
theorem d_Rn_operate_9 : decode b_Rn_operate 9 = .ok (.dstore 4, 2) := by decide +kernel
theorem d_Rn_operate_11 : decode b_Rn_operate 11 = .ok (.iload_n 1, 1) := by decide +kernel
theorem d_Rn_operate_12 : decode b_Rn_operate 12 = .ok (.lookupswitch 150 #[(42, 139), (43, 117), (45, 128), (60, 60), (61, 98), (62, 79)], 60) := by decide +kernel
theorem d_Rn_operate_72 : decode b_Rn_operate 72 = .ok (.aload_n 0, 1) := by decide +kernel
theorem d_Rn_operate_73 : decode b_Rn_operate 73 = .ok (.dload 4, 2) := by decide +kernel
theorem d_Rn_operate_75 : decode b_Rn_operate 75 = .ok (.dload_n 2, 1) := by decide +kernel
theorem d_Rn_operate_76 : decode b_Rn_operate 76 = .ok (.dcmp .g, 1) := by decide +kernel
theorem d_Rn_operate_77 : decode b_Rn_operate 77 = .ok (.ifCond .ge 7, 3) := by decide +kernel
theorem d_Rn_operate_80 : decode b_Rn_operate 80 = .ok (.dconst 1, 1) := by decide +kernel
theorem d_Rn_operate_81 : decode b_Rn_operate 81 = .ok (.goto 4, 3) := by decide +kernel
theorem d_Rn_operate_84 : decode b_Rn_operate 84 = .ok (.dconst 0, 1) := by decide +kernel
theorem d_Rn_operate_85 : decode b_Rn_operate 85 = .ok (.invokevirtual 95, 3) := by decide +kernel
theorem d_Rn_operate_88 : decode b_Rn_operate 88 = .ok (.goto 95, 3) := by decide +kernel
theorem d_Rn_operate_91 : decode b_Rn_operate 91 = .ok (.aload_n 0, 1) := by decide +kernel
theorem d_Rn_operate_92 : decode b_Rn_operate 92 = .ok (.dload 4, 2) := by decide +kernel
theorem d_Rn_operate_94 : decode b_Rn_operate 94 = .ok (.dload_n 2, 1) := by decide +kernel
theorem d_Rn_operate_95 : decode b_Rn_operate 95 = .ok (.dcmp .l, 1) := by decide +kernel
theorem d_Rn_operate_96 : decode b_Rn_operate 96 = .ok (.ifCond .le 7, 3) := by decide +kernel
theorem d_Rn_operate_99 : decode b_Rn_operate 99 = .ok (.dconst 1, 1) := by decide +kernel
theorem d_Rn_operate_100 : decode b_Rn_operate 100 = .ok (.goto 4, 3) := by decide +kernel
theorem d_Rn_operate_103 : decode b_Rn_operate 103 = .ok (.dconst 0, 1) := by decide +kernel
theorem d_Rn_operate_104 : decode b_Rn_operate 104 = .ok (.invokevirtual 95, 3) := by decide +kernel
theorem d_Rn_operate_107 : decode b_Rn_operate 107 = .ok (.goto 76, 3) := by decide +kernel
theorem d_Rn_operate_110 : decode b_Rn_operate 110 = .ok (.aload_n 0, 1) := by decide +kernel
theorem d_Rn_operate_111 : decode b_Rn_operate 111 = .ok (.dload 4, 2) := by decide +kernel
theorem d_Rn_operate_113 : decode b_Rn_operate 113 = .ok (.dload_n 2, 1) := by decide +kernel
theorem d_Rn_operate_114 : decode b_Rn_operate 114 = .ok (.dcmp .l, 1) := by decide +kernel
theorem d_Rn_operate_115 : decode b_Rn_operate 115 = .ok (.ifCond .ne 7, 3) := by decide +kernel
theorem d_Rn_operate_118 : decode b_Rn_operate 118 = .ok (.dconst 1, 1) := by decide +kernel
theorem d_Rn_operate_119 : decode b_Rn_operate 119 = .ok (.goto 4, 3) := by decide +kernel
theorem d_Rn_operate_122 : decode b_Rn_operate 122 = .ok (.dconst 0, 1) := by decide +kernel
theorem d_Rn_operate_123 : decode b_Rn_operate 123 = .ok (.invokevirtual 95, 3) := by decide +kernel
theorem d_Rn_operate_126 : decode b_Rn_operate 126 = .ok (.goto 57, 3) := by decide +kernel
theorem d_Rn_operate_129 : decode b_Rn_operate 129 = .ok (.aload_n 0, 1) := by decide +kernel
theorem d_Rn_operate_130 : decode b_Rn_operate 130 = .ok (.dload 4, 2) := by decide +kernel
theorem d_Rn_operate_132 : decode b_Rn_operate 132 = .ok (.dload_n 2, 1) := by decide +kernel
theorem d_Rn_operate_133 : decode b_Rn_operate 133 = .ok (.dadd, 1) := by decide +kernel
theorem d_Rn_operate_134 : decode b_Rn_operate 134 = .ok (.invokevirtual 124, 3) := by decide +kernel
theorem d_Rn_operate_137 : decode b_Rn_operate 137 = .ok (.goto 46, 3) := by decide +kernel
theorem d_Rn_operate_140 : decode b_Rn_operate 140 = .ok (.aload_n 0, 1) := by decide +kernel
theorem d_Rn_operate_141 : decode b_Rn_operate 141 = .ok (.dload 4, 2) := by decide +kernel
theorem d_Rn_operate_143 : decode b_Rn_operate 143 = .ok (.dload_n 2, 1) := by decide +kernel
theorem d_Rn_operate_144 : decode b_Rn_operate 144 = .ok (.dsub, 1) := by decide +kernel
theorem d_Rn_operate_145 : decode b_Rn_operate 145 = .ok (.invokevirtual 124, 3) := by decide +kernel
theorem d_Rn_operate_148 : decode b_Rn_operate 148 = .ok (.goto 35, 3) := by decide +kernel
theorem d_Rn_operate_151 : decode b_Rn_operate 151 = .ok (.aload_n 0, 1) := by decide +kernel
theorem d_Rn_operate_152 : decode b_Rn_operate 152 = .ok (.dload 4, 2) := by decide +kernel
theorem d_Rn_operate_154 : decode b_Rn_operate 154 = .ok (.dload_n 2, 1) := by decide +kernel
theorem d_Rn_operate_155 : decode b_Rn_operate 155 = .ok (.dmul, 1) := by decide +kernel
theorem d_Rn_operate_156 : decode b_Rn_operate 156 = .ok (.invokevirtual 124, 3) := by decide +kernel
theorem d_Rn_operate_159 : decode b_Rn_operate 159 = .ok (.goto 24, 3) := by decide +kernel
theorem d_Rn_operate_162 : decode b_Rn_operate 162 = .ok (.dload_n 2, 1) := by decide +kernel
theorem d_Rn_operate_163 : decode b_Rn_operate 163 = .ok (.dconst 0, 1) := by decide +kernel
theorem d_Rn_operate_164 : decode b_Rn_operate 164 = .ok (.dcmp .l, 1) := by decide +kernel
theorem d_Rn_operate_165 : decode b_Rn_operate 165 = .ok (.ifCond .ne 10, 3) := by decide +kernel
theorem d_Rn_operate_168 : decode b_Rn_operate 168 = .ok (.aload_n 0, 1) := by decide +kernel
theorem d_Rn_operate_169 : decode b_Rn_operate 169 = .ok (.invokevirtual 127, 3) := by decide +kernel
theorem d_Rn_operate_172 : decode b_Rn_operate 172 = .ok (.goto 11, 3) := by decide +kernel
theorem d_Rn_operate_175 : decode b_Rn_operate 175 = .ok (.aload_n 0, 1) := by decide +kernel
theorem d_Rn_operate_176 : decode b_Rn_operate 176 = .ok (.dload 4, 2) := by decide +kernel
theorem d_Rn_operate_178 : decode b_Rn_operate 178 = .ok (.dload_n 2, 1) := by decide +kernel
theorem d_Rn_operate_179 : decode b_Rn_operate 179 = .ok (.ddiv, 1) := by decide +kernel
theorem d_Rn_operate_180 : decode b_Rn_operate 180 = .ok (.invokevirtual 124, 3) := by decide +kernel
theorem d_Rn_operate_183 : decode b_Rn_operate 183 = .ok (.return_, 1) := by decide +kernel
theorem d_Rn_pushOutcome_0 : decode b_Rn_pushOutcome 0 = .ok (.dload_n 1, 1) := by decide +kernel
theorem d_Rn_pushOutcome_1 : decode b_Rn_pushOutcome 1 = .ok (.invokestatic 130, 3) := by decide +kernel
theorem d_Rn_pushOutcome_4 : decode b_Rn_pushOutcome 4 = .ok (.ifCond .eq 10, 3) := by decide +kernel
theorem d_Rn_pushOutcome_7 : decode b_Rn_pushOutcome 7 = .ok (.aload_n 0, 1) := by decide +kernel
theorem d_Rn_pushOutcome_8 : decode b_Rn_pushOutcome 8 = .ok (.invokevirtual 127, 3) := by decide +kernel
theorem d_Rn_pushOutcome_11 : decode b_Rn_pushOutcome 11 = .ok (.goto 8, 3) := by decide +kernel
theorem d_Rn_pushOutcome_14 : decode b_Rn_pushOutcome 14 = .ok (.aload_n 0, 1) := by decide +kernel
theorem d_Rn_pushOutcome_15 : decode b_Rn_pushOutcome 15 = .ok (.dload_n 1, 1) := by decide +kernel
theorem d_Rn_pushOutcome_16 : decode b_Rn_pushOutcome 16 = .ok (.invokevirtual 95, 3) := by decide +kernel
theorem d_Rn_pushOutcome_19 : decode b_Rn_pushOutcome 19 = .ok (.return_, 1) := by decide +kernel
theorem d_Rn_set_0 : decode b_Rn_set 0 = .ok (.iload_n 1, 1) := by decide +kernel
theorem d_Rn_set_1 : decode b_Rn_set 1 = .ok (.aload_n 0, 1) := by decide +kernel
theorem d_Rn_set_2 : decode b_Rn_set 2 = .ok (.getfield 38, 3) := by decide +kernel
theorem d_Rn_set_5 : decode b_Rn_set 5 = .ok (.invokestatic 87, 3) := by decide +kernel
theorem d_Rn_set_8 : decode b_Rn_set 8 = .ok (.istore 4, 2) := by decide +kernel
theorem d_Rn_set_10 : decode b_Rn_set 10 = .ok (.iload 4, 2) := by decide +kernel
theorem d_Rn_set_12 : decode b_Rn_set 12 = .ok (.aload_n 0, 1) := by decide +kernel
theorem d_Rn_set_13 : decode b_Rn_set 13 = .ok (.getfield 15, 3) := by decide +kernel
theorem d_Rn_set_16 : decode b_Rn_set 16 = .ok (.arraylength, 1) := by decide +kernel
theorem d_Rn_set_17 : decode b_Rn_set 17 = .ok (.invokestatic 91, 3) := by decide +kernel
theorem d_Rn_set_20 : decode b_Rn_set 20 = .ok (.ifCond .eq 11, 3) := by decide +kernel
theorem d_Rn_set_23 : decode b_Rn_set 23 = .ok (.aload_n 0, 1) := by decide +kernel
theorem d_Rn_set_24 : decode b_Rn_set 24 = .ok (.getfield 15, 3) := by decide +kernel
theorem d_Rn_set_27 : decode b_Rn_set 27 = .ok (.iload 4, 2) := by decide +kernel
theorem d_Rn_set_29 : decode b_Rn_set 29 = .ok (.dload_n 2, 1) := by decide +kernel
theorem d_Rn_set_30 : decode b_Rn_set 30 = .ok (.dastore, 1) := by decide +kernel
theorem d_Rn_set_31 : decode b_Rn_set 31 = .ok (.return_, 1) := by decide +kernel
theorem d_Rn_gather_0 : decode b_Rn_gather 0 = .ok (.aload_n 0, 1) := by decide +kernel
theorem d_Rn_gather_1 : decode b_Rn_gather 1 = .ok (.invokevirtual 103, 3) := by decide +kernel
theorem d_Rn_gather_4 : decode b_Rn_gather 4 = .ok (.dstore_n 2, 1) := by decide +kernel
theorem d_Rn_gather_5 : decode b_Rn_gather 5 = .ok (.aload_n 0, 1) := by decide +kernel
theorem d_Rn_gather_6 : decode b_Rn_gather 6 = .ok (.invokevirtual 103, 3) := by decide +kernel
theorem d_Rn_gather_9 : decode b_Rn_gather 9 = .ok (.d2i, 1) := by decide +kernel
theorem d_Rn_gather_10 : decode b_Rn_gather 10 = .ok (.istore 4, 2) := by decide +kernel
theorem d_Rn_gather_12 : decode b_Rn_gather 12 = .ok (.aload_n 1, 1) := by decide +kernel
theorem d_Rn_gather_13 : decode b_Rn_gather 13 = .ok (.iload 4, 2) := by decide +kernel
theorem d_Rn_gather_15 : decode b_Rn_gather 15 = .ok (.invokevirtual 134, 3) := by decide +kernel
theorem d_Rn_gather_18 : decode b_Rn_gather 18 = .ok (.istore 5, 2) := by decide +kernel
theorem d_Rn_gather_20 : decode b_Rn_gather 20 = .ok (.iload 5, 2) := by decide +kernel
theorem d_Rn_gather_22 : decode b_Rn_gather 22 = .ok (.ifCond .ge 16, 3) := by decide +kernel
theorem d_Rn_gather_25 : decode b_Rn_gather 25 = .ok (.aload_n 0, 1) := by decide +kernel
theorem d_Rn_gather_26 : decode b_Rn_gather 26 = .ok (.dup, 1) := by decide +kernel
theorem d_Rn_gather_27 : decode b_Rn_gather 27 = .ok (.getfield 35, 3) := by decide +kernel
theorem d_Rn_gather_30 : decode b_Rn_gather 30 = .ok (.iconst 1, 1) := by decide +kernel
theorem d_Rn_gather_31 : decode b_Rn_gather 31 = .ok (.iadd, 1) := by decide +kernel
theorem d_Rn_gather_32 : decode b_Rn_gather 32 = .ok (.putfield 35, 3) := by decide +kernel
theorem d_Rn_gather_35 : decode b_Rn_gather 35 = .ok (.goto 32, 3) := by decide +kernel
theorem d_Rn_gather_38 : decode b_Rn_gather 38 = .ok (.aload_n 1, 1) := by decide +kernel
theorem d_Rn_gather_39 : decode b_Rn_gather 39 = .ok (.getfield 138, 3) := by decide +kernel
theorem d_Rn_gather_42 : decode b_Rn_gather 42 = .ok (.iload 5, 2) := by decide +kernel
theorem d_Rn_gather_44 : decode b_Rn_gather 44 = .ok (.daload, 1) := by decide +kernel
theorem d_Rn_gather_45 : decode b_Rn_gather 45 = .ok (.dload_n 2, 1) := by decide +kernel
theorem d_Rn_gather_46 : decode b_Rn_gather 46 = .ok (.dadd, 1) := by decide +kernel
theorem d_Rn_gather_47 : decode b_Rn_gather 47 = .ok (.invokestatic 130, 3) := by decide +kernel
theorem d_Rn_gather_50 : decode b_Rn_gather 50 = .ok (.ifCond .eq 10, 3) := by decide +kernel
theorem d_Rn_gather_53 : decode b_Rn_gather 53 = .ok (.aload_n 0, 1) := by decide +kernel
theorem d_Rn_gather_54 : decode b_Rn_gather 54 = .ok (.invokevirtual 127, 3) := by decide +kernel
theorem d_Rn_gather_57 : decode b_Rn_gather 57 = .ok (.goto 10, 3) := by decide +kernel
theorem d_Rn_gather_60 : decode b_Rn_gather 60 = .ok (.aload_n 1, 1) := by decide +kernel
theorem d_Rn_gather_61 : decode b_Rn_gather 61 = .ok (.iload 5, 2) := by decide +kernel
theorem d_Rn_gather_63 : decode b_Rn_gather 63 = .ok (.dload_n 2, 1) := by decide +kernel
theorem d_Rn_gather_64 : decode b_Rn_gather 64 = .ok (.invokevirtual 141, 3) := by decide +kernel
theorem d_Rn_gather_67 : decode b_Rn_gather 67 = .ok (.return_, 1) := by decide +kernel
theorem d_Rn_fail_0 : decode b_Rn_fail 0 = .ok (.aload_n 0, 1) := by decide +kernel
theorem d_Rn_fail_1 : decode b_Rn_fail 1 = .ok (.iconst 1, 1) := by decide +kernel
theorem d_Rn_fail_2 : decode b_Rn_fail 2 = .ok (.putfield 58, 3) := by decide +kernel
theorem d_Rn_fail_5 : decode b_Rn_fail 5 = .ok (.aload_n 0, 1) := by decide +kernel
theorem d_Rn_fail_6 : decode b_Rn_fail 6 = .ok (.iconst 1, 1) := by decide +kernel
theorem d_Rn_fail_7 : decode b_Rn_fail 7 = .ok (.putfield 54, 3) := by decide +kernel
theorem d_Rn_fail_10 : decode b_Rn_fail 10 = .ok (.return_, 1) := by decide +kernel
theorem d_Rn_push_0 : decode b_Rn_push 0 = .ok (.aload_n 0, 1) := by decide +kernel
theorem d_Rn_push_1 : decode b_Rn_push 1 = .ok (.getfield 51, 3) := by decide +kernel
theorem d_Rn_push_4 : decode b_Rn_push 4 = .ok (.aload_n 0, 1) := by decide +kernel
theorem d_Rn_push_5 : decode b_Rn_push 5 = .ok (.getfield 9, 3) := by decide +kernel
theorem d_Rn_push_8 : decode b_Rn_push 8 = .ok (.arraylength, 1) := by decide +kernel
theorem d_Rn_push_9 : decode b_Rn_push 9 = .ok (.if_icmp .ge 23, 3) := by decide +kernel
theorem d_Rn_push_12 : decode b_Rn_push 12 = .ok (.aload_n 0, 1) := by decide +kernel
theorem d_Rn_push_13 : decode b_Rn_push 13 = .ok (.getfield 9, 3) := by decide +kernel
theorem d_Rn_push_16 : decode b_Rn_push 16 = .ok (.aload_n 0, 1) := by decide +kernel
theorem d_Rn_push_17 : decode b_Rn_push 17 = .ok (.getfield 51, 3) := by decide +kernel
theorem d_Rn_push_20 : decode b_Rn_push 20 = .ok (.dload_n 1, 1) := by decide +kernel
theorem d_Rn_push_21 : decode b_Rn_push 21 = .ok (.dastore, 1) := by decide +kernel
theorem d_Rn_push_22 : decode b_Rn_push 22 = .ok (.aload_n 0, 1) := by decide +kernel
theorem d_Rn_push_23 : decode b_Rn_push 23 = .ok (.dup, 1) := by decide +kernel
theorem d_Rn_push_24 : decode b_Rn_push 24 = .ok (.getfield 51, 3) := by decide +kernel
theorem d_Rn_push_27 : decode b_Rn_push 27 = .ok (.iconst 1, 1) := by decide +kernel
theorem d_Rn_push_28 : decode b_Rn_push 28 = .ok (.iadd, 1) := by decide +kernel
theorem d_Rn_push_29 : decode b_Rn_push 29 = .ok (.putfield 51, 3) := by decide +kernel
theorem d_Rn_push_32 : decode b_Rn_push 32 = .ok (.return_, 1) := by decide +kernel
theorem d_Rn_pop_0 : decode b_Rn_pop 0 = .ok (.aload_n 0, 1) := by decide +kernel
theorem d_Rn_pop_1 : decode b_Rn_pop 1 = .ok (.getfield 51, 3) := by decide +kernel
theorem d_Rn_pop_4 : decode b_Rn_pop 4 = .ok (.ifCond .gt 5, 3) := by decide +kernel
theorem d_Rn_pop_7 : decode b_Rn_pop 7 = .ok (.dconst 0, 1) := by decide +kernel
theorem d_Rn_pop_8 : decode b_Rn_pop 8 = .ok (.dreturn, 1) := by decide +kernel
theorem d_Rn_pop_9 : decode b_Rn_pop 9 = .ok (.aload_n 0, 1) := by decide +kernel
theorem d_Rn_pop_10 : decode b_Rn_pop 10 = .ok (.dup, 1) := by decide +kernel
theorem d_Rn_pop_11 : decode b_Rn_pop 11 = .ok (.getfield 51, 3) := by decide +kernel
theorem d_Rn_pop_14 : decode b_Rn_pop 14 = .ok (.iconst 1, 1) := by decide +kernel
theorem d_Rn_pop_15 : decode b_Rn_pop 15 = .ok (.isub, 1) := by decide +kernel
theorem d_Rn_pop_16 : decode b_Rn_pop 16 = .ok (.putfield 51, 3) := by decide +kernel
theorem d_Rn_pop_19 : decode b_Rn_pop 19 = .ok (.aload_n 0, 1) := by decide +kernel
theorem d_Rn_pop_20 : decode b_Rn_pop 20 = .ok (.getfield 9, 3) := by decide +kernel
theorem d_Rn_pop_23 : decode b_Rn_pop 23 = .ok (.aload_n 0, 1) := by decide +kernel
theorem d_Rn_pop_24 : decode b_Rn_pop 24 = .ok (.getfield 51, 3) := by decide +kernel
theorem d_Rn_pop_27 : decode b_Rn_pop 27 = .ok (.daload, 1) := by decide +kernel
theorem d_Rn_pop_28 : decode b_Rn_pop 28 = .ok (.dreturn, 1) := by decide +kernel
theorem d_Rn_slotOf_0 : decode b_Rn_slotOf 0 = .ok (.iload_n 0, 1) := by decide +kernel
theorem d_Rn_slotOf_1 : decode b_Rn_slotOf 1 = .ok (.iconst 3, 1) := by decide +kernel
theorem d_Rn_slotOf_2 : decode b_Rn_slotOf 2 = .ok (.if_icmp .ge 7, 3) := by decide +kernel
theorem d_Rn_slotOf_5 : decode b_Rn_slotOf 5 = .ok (.iload_n 0, 1) := by decide +kernel
theorem d_Rn_slotOf_6 : decode b_Rn_slotOf 6 = .ok (.goto 8, 3) := by decide +kernel
theorem d_Rn_slotOf_9 : decode b_Rn_slotOf 9 = .ok (.iload_n 0, 1) := by decide +kernel
theorem d_Rn_slotOf_10 : decode b_Rn_slotOf 10 = .ok (.iload_n 1, 1) := by decide +kernel
theorem d_Rn_slotOf_11 : decode b_Rn_slotOf 11 = .ok (.iconst 3, 1) := by decide +kernel
theorem d_Rn_slotOf_12 : decode b_Rn_slotOf 12 = .ok (.imul, 1) := by decide +kernel
theorem d_Rn_slotOf_13 : decode b_Rn_slotOf 13 = .ok (.iadd, 1) := by decide +kernel
theorem d_Rn_slotOf_14 : decode b_Rn_slotOf 14 = .ok (.ireturn, 1) := by decide +kernel
theorem d_Rn_isOutOfBounds_0 : decode b_Rn_isOutOfBounds 0 = .ok (.dload_n 0, 1) := by decide +kernel
theorem d_Rn_isOutOfBounds_1 : decode b_Rn_isOutOfBounds 1 = .ok (.ldc2_w 144, 3) := by decide +kernel
theorem d_Rn_isOutOfBounds_4 : decode b_Rn_isOutOfBounds 4 = .ok (.dcmp .l, 1) := by decide +kernel
theorem d_Rn_isOutOfBounds_5 : decode b_Rn_isOutOfBounds 5 = .ok (.ifCond .gt 11, 3) := by decide +kernel
theorem d_Rn_isOutOfBounds_8 : decode b_Rn_isOutOfBounds 8 = .ok (.dload_n 0, 1) := by decide +kernel
theorem d_Rn_isOutOfBounds_9 : decode b_Rn_isOutOfBounds 9 = .ok (.ldc2_w 146, 3) := by decide +kernel
theorem d_Rn_isOutOfBounds_12 : decode b_Rn_isOutOfBounds 12 = .ok (.dcmp .g, 1) := by decide +kernel
theorem d_Rn_isOutOfBounds_13 : decode b_Rn_isOutOfBounds 13 = .ok (.ifCond .ge 7, 3) := by decide +kernel
theorem d_Rn_isOutOfBounds_16 : decode b_Rn_isOutOfBounds 16 = .ok (.iconst 1, 1) := by decide +kernel
theorem d_Rn_isOutOfBounds_17 : decode b_Rn_isOutOfBounds 17 = .ok (.goto 4, 3) := by decide +kernel
theorem d_Rn_isOutOfBounds_20 : decode b_Rn_isOutOfBounds 20 = .ok (.iconst 0, 1) := by decide +kernel
theorem d_Rn_isOutOfBounds_21 : decode b_Rn_isOutOfBounds 21 = .ok (.ireturn, 1) := by decide +kernel
