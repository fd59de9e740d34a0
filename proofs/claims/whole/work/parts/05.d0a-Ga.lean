theorem d_Ga_init_0 : decode b_Ga_init 0 = .ok (.aload_n 0, 1) := by decide +kernel
theorem d_Ga_init_1 : decode b_Ga_init 1 = .ok (.invokespecial 3, 3) := by decide +kernel
theorem d_Ga_init_4 : decode b_Ga_init 4 = .ok (.aload_n 0, 1) := by decide +kernel
theorem d_Ga_init_5 : decode b_Ga_init 5 = .ok (.iconst 4, 1) := by decide +kernel
theorem d_Ga_init_6 : decode b_Ga_init 6 = .ok (.newarray .int, 2) := by decide +kernel
theorem d_Ga_init_8 : decode b_Ga_init 8 = .ok (.putfield 9, 3) := by decide +kernel
theorem d_Ga_init_11 : decode b_Ga_init 11 = .ok (.aload_n 0, 1) := by decide +kernel
theorem d_Ga_init_12 : decode b_Ga_init 12 = .ok (.iconst 4, 1) := by decide +kernel
theorem d_Ga_init_13 : decode b_Ga_init 13 = .ok (.newarray .double, 2) := by decide +kernel
theorem d_Ga_init_15 : decode b_Ga_init 15 = .ok (.putfield 15, 3) := by decide +kernel
theorem d_Ga_init_18 : decode b_Ga_init 18 = .ok (.aload_n 0, 1) := by decide +kernel
theorem d_Ga_init_19 : decode b_Ga_init 19 = .ok (.iconst 4, 1) := by decide +kernel
theorem d_Ga_init_20 : decode b_Ga_init 20 = .ok (.newarray .double, 2) := by decide +kernel
theorem d_Ga_init_22 : decode b_Ga_init 22 = .ok (.putfield 19, 3) := by decide +kernel
theorem d_Ga_init_25 : decode b_Ga_init 25 = .ok (.aload_n 0, 1) := by decide +kernel
theorem d_Ga_init_26 : decode b_Ga_init 26 = .ok (.iconst 4, 1) := by decide +kernel
theorem d_Ga_init_27 : decode b_Ga_init 27 = .ok (.newarray .double, 2) := by decide +kernel
theorem d_Ga_init_29 : decode b_Ga_init 29 = .ok (.putfield 22, 3) := by decide +kernel
theorem d_Ga_init_32 : decode b_Ga_init 32 = .ok (.aload_n 0, 1) := by decide +kernel
theorem d_Ga_init_33 : decode b_Ga_init 33 = .ok (.iconst 4, 1) := by decide +kernel
theorem d_Ga_init_34 : decode b_Ga_init 34 = .ok (.newarray .int, 2) := by decide +kernel
theorem d_Ga_init_36 : decode b_Ga_init 36 = .ok (.putfield 25, 3) := by decide +kernel
theorem d_Ga_init_39 : decode b_Ga_init 39 = .ok (.aload_n 0, 1) := by decide +kernel
theorem d_Ga_init_40 : decode b_Ga_init 40 = .ok (.bipush 32, 2) := by decide +kernel
theorem d_Ga_init_42 : decode b_Ga_init 42 = .ok (.newarray .int, 2) := by decide +kernel
theorem d_Ga_init_44 : decode b_Ga_init 44 = .ok (.putfield 28, 3) := by decide +kernel
theorem d_Ga_init_47 : decode b_Ga_init 47 = .ok (.aload_n 0, 1) := by decide +kernel
theorem d_Ga_init_48 : decode b_Ga_init 48 = .ok (.iconst 0, 1) := by decide +kernel
theorem d_Ga_init_49 : decode b_Ga_init 49 = .ok (.putfield 31, 3) := by decide +kernel
theorem d_Ga_init_52 : decode b_Ga_init 52 = .ok (.return_, 1) := by decide +kernel
theorem d_Ga_rowOf_0 : decode b_Ga_rowOf 0 = .ok (.iconst 0, 1) := by decide +kernel
theorem d_Ga_rowOf_1 : decode b_Ga_rowOf 1 = .ok (.istore_n 2, 1) := by decide +kernel
theorem d_Ga_rowOf_2 : decode b_Ga_rowOf 2 = .ok (.iload_n 2, 1) := by decide +kernel
theorem d_Ga_rowOf_3 : decode b_Ga_rowOf 3 = .ok (.aload_n 0, 1) := by decide +kernel
theorem d_Ga_rowOf_4 : decode b_Ga_rowOf 4 = .ok (.getfield 31, 3) := by decide +kernel
theorem d_Ga_rowOf_7 : decode b_Ga_rowOf 7 = .ok (.if_icmp .ge 26, 3) := by decide +kernel
theorem d_Ga_rowOf_10 : decode b_Ga_rowOf 10 = .ok (.iload_n 2, 1) := by decide +kernel
theorem d_Ga_rowOf_11 : decode b_Ga_rowOf 11 = .ok (.iconst 4, 1) := by decide +kernel
theorem d_Ga_rowOf_12 : decode b_Ga_rowOf 12 = .ok (.if_icmp .ge 21, 3) := by decide +kernel
theorem d_Ga_rowOf_15 : decode b_Ga_rowOf 15 = .ok (.aload_n 0, 1) := by decide +kernel
theorem d_Ga_rowOf_16 : decode b_Ga_rowOf 16 = .ok (.getfield 9, 3) := by decide +kernel
theorem d_Ga_rowOf_19 : decode b_Ga_rowOf 19 = .ok (.iload_n 2, 1) := by decide +kernel
theorem d_Ga_rowOf_20 : decode b_Ga_rowOf 20 = .ok (.iaload, 1) := by decide +kernel
theorem d_Ga_rowOf_21 : decode b_Ga_rowOf 21 = .ok (.iload_n 1, 1) := by decide +kernel
theorem d_Ga_rowOf_22 : decode b_Ga_rowOf 22 = .ok (.if_icmp .ne 5, 3) := by decide +kernel
theorem d_Ga_rowOf_25 : decode b_Ga_rowOf 25 = .ok (.iload_n 2, 1) := by decide +kernel
theorem d_Ga_rowOf_26 : decode b_Ga_rowOf 26 = .ok (.ireturn, 1) := by decide +kernel
theorem d_Ga_rowOf_27 : decode b_Ga_rowOf 27 = .ok (.iinc 2 1, 3) := by decide +kernel
theorem d_Ga_rowOf_30 : decode b_Ga_rowOf 30 = .ok (.goto (-28), 3) := by decide +kernel
theorem d_Ga_rowOf_33 : decode b_Ga_rowOf 33 = .ok (.iconst (-1), 1) := by decide +kernel
theorem d_Ga_rowOf_34 : decode b_Ga_rowOf 34 = .ok (.ireturn, 1) := by decide +kernel
theorem d_Ga_rowFor_0 : decode b_Ga_rowFor 0 = .ok (.aload_n 0, 1) := by decide +kernel
theorem d_Ga_rowFor_1 : decode b_Ga_rowFor 1 = .ok (.iload_n 1, 1) := by decide +kernel
theorem d_Ga_rowFor_2 : decode b_Ga_rowFor 2 = .ok (.invokevirtual 35, 3) := by decide +kernel
theorem d_Ga_rowFor_5 : decode b_Ga_rowFor 5 = .ok (.istore_n 2, 1) := by decide +kernel
theorem d_Ga_rowFor_6 : decode b_Ga_rowFor 6 = .ok (.iload_n 2, 1) := by decide +kernel
theorem d_Ga_rowFor_7 : decode b_Ga_rowFor 7 = .ok (.ifCond .ge 11, 3) := by decide +kernel
theorem d_Ga_rowFor_10 : decode b_Ga_rowFor 10 = .ok (.aload_n 0, 1) := by decide +kernel
theorem d_Ga_rowFor_11 : decode b_Ga_rowFor 11 = .ok (.getfield 31, 3) := by decide +kernel
theorem d_Ga_rowFor_14 : decode b_Ga_rowFor 14 = .ok (.iconst 4, 1) := by decide +kernel
theorem d_Ga_rowFor_15 : decode b_Ga_rowFor 15 = .ok (.if_icmp .lt 5, 3) := by decide +kernel
theorem d_Ga_rowFor_18 : decode b_Ga_rowFor 18 = .ok (.iload_n 2, 1) := by decide +kernel
theorem d_Ga_rowFor_19 : decode b_Ga_rowFor 19 = .ok (.ireturn, 1) := by decide +kernel
theorem d_Ga_rowFor_20 : decode b_Ga_rowFor 20 = .ok (.aload_n 0, 1) := by decide +kernel
theorem d_Ga_rowFor_21 : decode b_Ga_rowFor 21 = .ok (.getfield 9, 3) := by decide +kernel
theorem d_Ga_rowFor_24 : decode b_Ga_rowFor 24 = .ok (.aload_n 0, 1) := by decide +kernel
theorem d_Ga_rowFor_25 : decode b_Ga_rowFor 25 = .ok (.getfield 31, 3) := by decide +kernel
theorem d_Ga_rowFor_28 : decode b_Ga_rowFor 28 = .ok (.iload_n 1, 1) := by decide +kernel
theorem d_Ga_rowFor_29 : decode b_Ga_rowFor 29 = .ok (.iastore, 1) := by decide +kernel
theorem d_Ga_rowFor_30 : decode b_Ga_rowFor 30 = .ok (.aload_n 0, 1) := by decide +kernel
theorem d_Ga_rowFor_31 : decode b_Ga_rowFor 31 = .ok (.dup, 1) := by decide +kernel
theorem d_Ga_rowFor_32 : decode b_Ga_rowFor 32 = .ok (.getfield 31, 3) := by decide +kernel
theorem d_Ga_rowFor_35 : decode b_Ga_rowFor 35 = .ok (.iconst 1, 1) := by decide +kernel
theorem d_Ga_rowFor_36 : decode b_Ga_rowFor 36 = .ok (.iadd, 1) := by decide +kernel
theorem d_Ga_rowFor_37 : decode b_Ga_rowFor 37 = .ok (.putfield 31, 3) := by decide +kernel
theorem d_Ga_rowFor_40 : decode b_Ga_rowFor 40 = .ok (.aload_n 0, 1) := by decide +kernel
theorem d_Ga_rowFor_41 : decode b_Ga_rowFor 41 = .ok (.getfield 31, 3) := by decide +kernel
theorem d_Ga_rowFor_44 : decode b_Ga_rowFor 44 = .ok (.iconst 1, 1) := by decide +kernel
theorem d_Ga_rowFor_45 : decode b_Ga_rowFor 45 = .ok (.isub, 1) := by decide +kernel
theorem d_Ga_rowFor_46 : decode b_Ga_rowFor 46 = .ok (.ireturn, 1) := by decide +kernel
theorem d_Ga_add_0 : decode b_Ga_add 0 = .ok (.aload_n 0, 1) := by decide +kernel
theorem d_Ga_add_1 : decode b_Ga_add 1 = .ok (.getfield 25, 3) := by decide +kernel
theorem d_Ga_add_4 : decode b_Ga_add 4 = .ok (.iload_n 1, 1) := by decide +kernel
theorem d_Ga_add_5 : decode b_Ga_add 5 = .ok (.iaload, 1) := by decide +kernel
theorem d_Ga_add_6 : decode b_Ga_add 6 = .ok (.ifCond .ne 7, 3) := by decide +kernel
theorem d_Ga_add_9 : decode b_Ga_add 9 = .ok (.iconst 1, 1) := by decide +kernel
theorem d_Ga_add_10 : decode b_Ga_add 10 = .ok (.goto 4, 3) := by decide +kernel
theorem d_Ga_add_13 : decode b_Ga_add 13 = .ok (.iconst 0, 1) := by decide +kernel
theorem d_Ga_add_14 : decode b_Ga_add 14 = .ok (.istore 4, 2) := by decide +kernel
theorem d_Ga_add_16 : decode b_Ga_add 16 = .ok (.aload_n 0, 1) := by decide +kernel
theorem d_Ga_add_17 : decode b_Ga_add 17 = .ok (.getfield 25, 3) := by decide +kernel
theorem d_Ga_add_20 : decode b_Ga_add 20 = .ok (.iload_n 1, 1) := by decide +kernel
theorem d_Ga_add_21 : decode b_Ga_add 21 = .ok (.dup2, 1) := by decide +kernel
theorem d_Ga_add_22 : decode b_Ga_add 22 = .ok (.iaload, 1) := by decide +kernel
theorem d_Ga_add_23 : decode b_Ga_add 23 = .ok (.iconst 1, 1) := by decide +kernel
theorem d_Ga_add_24 : decode b_Ga_add 24 = .ok (.iadd, 1) := by decide +kernel
theorem d_Ga_add_25 : decode b_Ga_add 25 = .ok (.iastore, 1) := by decide +kernel
theorem d_Ga_add_26 : decode b_Ga_add 26 = .ok (.aload_n 0, 1) := by decide +kernel
theorem d_Ga_add_27 : decode b_Ga_add 27 = .ok (.getfield 22, 3) := by decide +kernel
theorem d_Ga_add_30 : decode b_Ga_add 30 = .ok (.iload_n 1, 1) := by decide +kernel
theorem d_Ga_add_31 : decode b_Ga_add 31 = .ok (.dup2, 1) := by decide +kernel
theorem d_Ga_add_32 : decode b_Ga_add 32 = .ok (.daload, 1) := by decide +kernel
theorem d_Ga_add_33 : decode b_Ga_add 33 = .ok (.dload_n 2, 1) := by decide +kernel
theorem d_Ga_add_34 : decode b_Ga_add 34 = .ok (.dadd, 1) := by decide +kernel
theorem d_Ga_add_35 : decode b_Ga_add 35 = .ok (.dastore, 1) := by decide +kernel
theorem d_Ga_add_36 : decode b_Ga_add 36 = .ok (.aload_n 0, 1) := by decide +kernel
theorem d_Ga_add_37 : decode b_Ga_add 37 = .ok (.getfield 28, 3) := by decide +kernel
theorem d_Ga_add_40 : decode b_Ga_add 40 = .ok (.iload_n 1, 1) := by decide +kernel
theorem d_Ga_add_41 : decode b_Ga_add 41 = .ok (.bipush 8, 2) := by decide +kernel
theorem d_Ga_add_43 : decode b_Ga_add 43 = .ok (.imul, 1) := by decide +kernel
theorem d_Ga_add_44 : decode b_Ga_add 44 = .ok (.dload_n 2, 1) := by decide +kernel
theorem d_Ga_add_45 : decode b_Ga_add 45 = .ok (.invokestatic 39, 3) := by decide +kernel
theorem d_Ga_add_48 : decode b_Ga_add 48 = .ok (.iadd, 1) := by decide +kernel
theorem d_Ga_add_49 : decode b_Ga_add 49 = .ok (.dup2, 1) := by decide +kernel
theorem d_Ga_add_50 : decode b_Ga_add 50 = .ok (.iaload, 1) := by decide +kernel
theorem d_Ga_add_51 : decode b_Ga_add 51 = .ok (.iconst 1, 1) := by decide +kernel
theorem d_Ga_add_52 : decode b_Ga_add 52 = .ok (.iadd, 1) := by decide +kernel
theorem d_Ga_add_53 : decode b_Ga_add 53 = .ok (.iastore, 1) := by decide +kernel
theorem d_Ga_add_54 : decode b_Ga_add 54 = .ok (.aload_n 0, 1) := by decide +kernel
theorem d_Ga_add_55 : decode b_Ga_add 55 = .ok (.getfield 15, 3) := by decide +kernel
theorem d_Ga_add_58 : decode b_Ga_add 58 = .ok (.iload_n 1, 1) := by decide +kernel
theorem d_Ga_add_59 : decode b_Ga_add 59 = .ok (.iload 4, 2) := by decide +kernel
theorem d_Ga_add_61 : decode b_Ga_add 61 = .ok (.ifCond .ne 14, 3) := by decide +kernel
theorem d_Ga_add_64 : decode b_Ga_add 64 = .ok (.dload_n 2, 1) := by decide +kernel
theorem d_Ga_add_65 : decode b_Ga_add 65 = .ok (.aload_n 0, 1) := by decide +kernel
theorem d_Ga_add_66 : decode b_Ga_add 66 = .ok (.getfield 15, 3) := by decide +kernel
theorem d_Ga_add_69 : decode b_Ga_add 69 = .ok (.iload_n 1, 1) := by decide +kernel
theorem d_Ga_add_70 : decode b_Ga_add 70 = .ok (.daload, 1) := by decide +kernel
theorem d_Ga_add_71 : decode b_Ga_add 71 = .ok (.dcmp .g, 1) := by decide +kernel
theorem d_Ga_add_72 : decode b_Ga_add 72 = .ok (.ifCond .ge 7, 3) := by decide +kernel
theorem d_Ga_add_75 : decode b_Ga_add 75 = .ok (.dload_n 2, 1) := by decide +kernel
theorem d_Ga_add_76 : decode b_Ga_add 76 = .ok (.goto 9, 3) := by decide +kernel
theorem d_Ga_add_79 : decode b_Ga_add 79 = .ok (.aload_n 0, 1) := by decide +kernel
theorem d_Ga_add_80 : decode b_Ga_add 80 = .ok (.getfield 15, 3) := by decide +kernel
theorem d_Ga_add_83 : decode b_Ga_add 83 = .ok (.iload_n 1, 1) := by decide +kernel
theorem d_Ga_add_84 : decode b_Ga_add 84 = .ok (.daload, 1) := by decide +kernel
theorem d_Ga_add_85 : decode b_Ga_add 85 = .ok (.dastore, 1) := by decide +kernel
theorem d_Ga_add_86 : decode b_Ga_add 86 = .ok (.aload_n 0, 1) := by decide +kernel
theorem d_Ga_add_87 : decode b_Ga_add 87 = .ok (.getfield 19, 3) := by decide +kernel
theorem d_Ga_add_90 : decode b_Ga_add 90 = .ok (.iload_n 1, 1) := by decide +kernel
theorem d_Ga_add_91 : decode b_Ga_add 91 = .ok (.iload 4, 2) := by decide +kernel
theorem d_Ga_add_93 : decode b_Ga_add 93 = .ok (.ifCond .ne 14, 3) := by decide +kernel
theorem d_Ga_add_96 : decode b_Ga_add 96 = .ok (.dload_n 2, 1) := by decide +kernel
theorem d_Ga_add_97 : decode b_Ga_add 97 = .ok (.aload_n 0, 1) := by decide +kernel
theorem d_Ga_add_98 : decode b_Ga_add 98 = .ok (.getfield 19, 3) := by decide +kernel
theorem d_Ga_add_101 : decode b_Ga_add 101 = .ok (.iload_n 1, 1) := by decide +kernel
theorem d_Ga_add_102 : decode b_Ga_add 102 = .ok (.daload, 1) := by decide +kernel
theorem d_Ga_add_103 : decode b_Ga_add 103 = .ok (.dcmp .l, 1) := by decide +kernel
theorem d_Ga_add_104 : decode b_Ga_add 104 = .ok (.ifCond .le 7, 3) := by decide +kernel
theorem d_Ga_add_107 : decode b_Ga_add 107 = .ok (.dload_n 2, 1) := by decide +kernel
theorem d_Ga_add_108 : decode b_Ga_add 108 = .ok (.goto 9, 3) := by decide +kernel
theorem d_Ga_add_111 : decode b_Ga_add 111 = .ok (.aload_n 0, 1) := by decide +kernel
theorem d_Ga_add_112 : decode b_Ga_add 112 = .ok (.getfield 19, 3) := by decide +kernel
theorem d_Ga_add_115 : decode b_Ga_add 115 = .ok (.iload_n 1, 1) := by decide +kernel
theorem d_Ga_add_116 : decode b_Ga_add 116 = .ok (.daload, 1) := by decide +kernel
theorem d_Ga_add_117 : decode b_Ga_add 117 = .ok (.dastore, 1) := by decide +kernel
theorem d_Ga_add_118 : decode b_Ga_add 118 = .ok (.return_, 1) := by decide +kernel
theorem d_Ga_figure_0 : decode b_Ga_figure 0 = .ok (.iload_n 2, 1) := by decide +kernel
theorem d_Ga_figure_1 : decode b_Ga_figure 1 = .ok (.tableswitch 48 0 2 #[27, 34, 41], 27) := by decide +kernel
theorem d_Ga_figure_28 : decode b_Ga_figure 28 = .ok (.aload_n 0, 1) := by decide +kernel
theorem d_Ga_figure_29 : decode b_Ga_figure 29 = .ok (.getfield 22, 3) := by decide +kernel
theorem d_Ga_figure_32 : decode b_Ga_figure 32 = .ok (.iload_n 1, 1) := by decide +kernel
theorem d_Ga_figure_33 : decode b_Ga_figure 33 = .ok (.daload, 1) := by decide +kernel
theorem d_Ga_figure_34 : decode b_Ga_figure 34 = .ok (.dreturn, 1) := by decide +kernel
theorem d_Ga_figure_35 : decode b_Ga_figure 35 = .ok (.aload_n 0, 1) := by decide +kernel
theorem d_Ga_figure_36 : decode b_Ga_figure 36 = .ok (.getfield 15, 3) := by decide +kernel
theorem d_Ga_figure_39 : decode b_Ga_figure 39 = .ok (.iload_n 1, 1) := by decide +kernel
theorem d_Ga_figure_40 : decode b_Ga_figure 40 = .ok (.daload, 1) := by decide +kernel
theorem d_Ga_figure_41 : decode b_Ga_figure 41 = .ok (.dreturn, 1) := by decide +kernel
theorem d_Ga_figure_42 : decode b_Ga_figure 42 = .ok (.aload_n 0, 1) := by decide +kernel
theorem d_Ga_figure_43 : decode b_Ga_figure 43 = .ok (.getfield 19, 3) := by decide +kernel
theorem d_Ga_figure_46 : decode b_Ga_figure 46 = .ok (.iload_n 1, 1) := by decide +kernel
theorem d_Ga_figure_47 : decode b_Ga_figure 47 = .ok (.daload, 1) := by decide +kernel
theorem d_Ga_figure_48 : decode b_Ga_figure 48 = .ok (.dreturn, 1) := by decide +kernel
theorem d_Ga_figure_49 : decode b_Ga_figure 49 = .ok (.aload_n 0, 1) := by decide +kernel
theorem d_Ga_figure_50 : decode b_Ga_figure 50 = .ok (.getfield 25, 3) := by decide +kernel
theorem d_Ga_figure_53 : decode b_Ga_figure 53 = .ok (.iload_n 1, 1) := by decide +kernel
theorem d_Ga_figure_54 : decode b_Ga_figure 54 = .ok (.iaload, 1) := by decide +kernel
theorem d_Ga_figure_55 : decode b_Ga_figure 55 = .ok (.ifCond .ne 7, 3) := by decide +kernel
theorem d_Ga_figure_58 : decode b_Ga_figure 58 = .ok (.dconst 0, 1) := by decide +kernel
theorem d_Ga_figure_59 : decode b_Ga_figure 59 = .ok (.goto 17, 3) := by decide +kernel
theorem d_Ga_figure_62 : decode b_Ga_figure 62 = .ok (.aload_n 0, 1) := by decide +kernel
theorem d_Ga_figure_63 : decode b_Ga_figure 63 = .ok (.getfield 22, 3) := by decide +kernel
theorem d_Ga_figure_66 : decode b_Ga_figure 66 = .ok (.iload_n 1, 1) := by decide +kernel
theorem d_Ga_figure_67 : decode b_Ga_figure 67 = .ok (.daload, 1) := by decide +kernel
theorem d_Ga_figure_68 : decode b_Ga_figure 68 = .ok (.aload_n 0, 1) := by decide +kernel
theorem d_Ga_figure_69 : decode b_Ga_figure 69 = .ok (.getfield 25, 3) := by decide +kernel
theorem d_Ga_figure_72 : decode b_Ga_figure 72 = .ok (.iload_n 1, 1) := by decide +kernel
theorem d_Ga_figure_73 : decode b_Ga_figure 73 = .ok (.iaload, 1) := by decide +kernel
theorem d_Ga_figure_74 : decode b_Ga_figure 74 = .ok (.i2d, 1) := by decide +kernel
theorem d_Ga_figure_75 : decode b_Ga_figure 75 = .ok (.ddiv, 1) := by decide +kernel
theorem d_Ga_figure_76 : decode b_Ga_figure 76 = .ok (.dreturn, 1) := by decide +kernel
theorem d_Ga_binOf_0 : decode b_Ga_binOf 0 = .ok (.dconst 1, 1) := by decide +kernel
theorem d_Ga_binOf_1 : decode b_Ga_binOf 1 = .ok (.dstore_n 2, 1) := by decide +kernel
theorem d_Ga_binOf_2 : decode b_Ga_binOf 2 = .ok (.iconst 0, 1) := by decide +kernel
theorem d_Ga_binOf_3 : decode b_Ga_binOf 3 = .ok (.istore 4, 2) := by decide +kernel
theorem d_Ga_binOf_5 : decode b_Ga_binOf 5 = .ok (.iload 4, 2) := by decide +kernel
theorem d_Ga_binOf_7 : decode b_Ga_binOf 7 = .ok (.bipush 7, 2) := by decide +kernel
theorem d_Ga_binOf_9 : decode b_Ga_binOf 9 = .ok (.if_icmp .ge 24, 3) := by decide +kernel
theorem d_Ga_binOf_12 : decode b_Ga_binOf 12 = .ok (.dload_n 0, 1) := by decide +kernel
theorem d_Ga_binOf_13 : decode b_Ga_binOf 13 = .ok (.dload_n 2, 1) := by decide +kernel
theorem d_Ga_binOf_14 : decode b_Ga_binOf 14 = .ok (.dcmp .g, 1) := by decide +kernel
theorem d_Ga_binOf_15 : decode b_Ga_binOf 15 = .ok (.ifCond .ge 6, 3) := by decide +kernel
theorem d_Ga_binOf_18 : decode b_Ga_binOf 18 = .ok (.iload 4, 2) := by decide +kernel
theorem d_Ga_binOf_20 : decode b_Ga_binOf 20 = .ok (.ireturn, 1) := by decide +kernel
theorem d_Ga_binOf_21 : decode b_Ga_binOf 21 = .ok (.dload_n 2, 1) := by decide +kernel
theorem d_Ga_binOf_22 : decode b_Ga_binOf 22 = .ok (.ldc2_w 43, 3) := by decide +kernel
theorem d_Ga_binOf_25 : decode b_Ga_binOf 25 = .ok (.dmul, 1) := by decide +kernel
theorem d_Ga_binOf_26 : decode b_Ga_binOf 26 = .ok (.dstore_n 2, 1) := by decide +kernel
theorem d_Ga_binOf_27 : decode b_Ga_binOf 27 = .ok (.iinc 4 1, 3) := by decide +kernel
theorem d_Ga_binOf_30 : decode b_Ga_binOf 30 = .ok (.goto (-25), 3) := by decide +kernel
theorem d_Ga_binOf_33 : decode b_Ga_binOf 33 = .ok (.bipush 7, 2) := by decide +kernel
theorem d_Ga_binOf_35 : decode b_Ga_binOf 35 = .ok (.ireturn, 1) := by decide +kernel
