theorem d_Te_init_0 : decode b_Te_init 0 = .ok (.aload_n 0, 1) := by decide +kernel
theorem d_Te_init_1 : decode b_Te_init 1 = .ok (.invokespecial 3, 3) := by decide +kernel
theorem d_Te_init_4 : decode b_Te_init 4 = .ok (.aload_n 0, 1) := by decide +kernel
theorem d_Te_init_5 : decode b_Te_init 5 = .ok (.bipush 48, 2) := by decide +kernel
theorem d_Te_init_7 : decode b_Te_init 7 = .ok (.newarray .char, 2) := by decide +kernel
theorem d_Te_init_9 : decode b_Te_init 9 = .ok (.putfield 9, 3) := by decide +kernel
theorem d_Te_init_12 : decode b_Te_init 12 = .ok (.aload_n 0, 1) := by decide +kernel
theorem d_Te_init_13 : decode b_Te_init 13 = .ok (.new 15, 3) := by decide +kernel
theorem d_Te_init_16 : decode b_Te_init 16 = .ok (.dup, 1) := by decide +kernel
theorem d_Te_init_17 : decode b_Te_init 17 = .ok (.invokespecial 17, 3) := by decide +kernel
theorem d_Te_init_20 : decode b_Te_init 20 = .ok (.putfield 18, 3) := by decide +kernel
theorem d_Te_init_23 : decode b_Te_init 23 = .ok (.aload_n 0, 1) := by decide +kernel
theorem d_Te_init_24 : decode b_Te_init 24 = .ok (.iconst 0, 1) := by decide +kernel
theorem d_Te_init_25 : decode b_Te_init 25 = .ok (.putfield 22, 3) := by decide +kernel
theorem d_Te_init_28 : decode b_Te_init 28 = .ok (.aload_n 0, 1) := by decide +kernel
theorem d_Te_init_29 : decode b_Te_init 29 = .ok (.iconst 0, 1) := by decide +kernel
theorem d_Te_init_30 : decode b_Te_init 30 = .ok (.putfield 26, 3) := by decide +kernel
theorem d_Te_init_33 : decode b_Te_init 33 = .ok (.return_, 1) := by decide +kernel
theorem d_Te_mayHold_0 : decode b_Te_mayHold 0 = .ok (.bipush 56, 2) := by decide +kernel
theorem d_Te_mayHold_2 : decode b_Te_mayHold 2 = .ok (.istore_n 3, 1) := by decide +kernel
theorem d_Te_mayHold_3 : decode b_Te_mayHold 3 = .ok (.iload_n 3, 1) := by decide +kernel
theorem d_Te_mayHold_4 : decode b_Te_mayHold 4 = .ok (.ifCond .lt 37, 3) := by decide +kernel
theorem d_Te_mayHold_7 : decode b_Te_mayHold 7 = .ok (.lload_n 1, 1) := by decide +kernel
theorem d_Te_mayHold_8 : decode b_Te_mayHold 8 = .ok (.iload_n 3, 1) := by decide +kernel
theorem d_Te_mayHold_9 : decode b_Te_mayHold 9 = .ok (.invokestatic 29, 3) := by decide +kernel
theorem d_Te_mayHold_12 : decode b_Te_mayHold 12 = .ok (.istore 4, 2) := by decide +kernel
theorem d_Te_mayHold_14 : decode b_Te_mayHold 14 = .ok (.iload 4, 2) := by decide +kernel
theorem d_Te_mayHold_16 : decode b_Te_mayHold 16 = .ok (.ifCond .eq 19, 3) := by decide +kernel
theorem d_Te_mayHold_19 : decode b_Te_mayHold 19 = .ok (.iload 4, 2) := by decide +kernel
theorem d_Te_mayHold_21 : decode b_Te_mayHold 21 = .ok (.bipush 33, 2) := by decide +kernel
theorem d_Te_mayHold_23 : decode b_Te_mayHold 23 = .ok (.if_icmp .lt 10, 3) := by decide +kernel
theorem d_Te_mayHold_26 : decode b_Te_mayHold 26 = .ok (.iload 4, 2) := by decide +kernel
theorem d_Te_mayHold_28 : decode b_Te_mayHold 28 = .ok (.bipush 126, 2) := by decide +kernel
theorem d_Te_mayHold_30 : decode b_Te_mayHold 30 = .ok (.if_icmp .le 5, 3) := by decide +kernel
theorem d_Te_mayHold_33 : decode b_Te_mayHold 33 = .ok (.iconst 0, 1) := by decide +kernel
theorem d_Te_mayHold_34 : decode b_Te_mayHold 34 = .ok (.ireturn, 1) := by decide +kernel
theorem d_Te_mayHold_35 : decode b_Te_mayHold 35 = .ok (.iinc 3 (-8), 3) := by decide +kernel
theorem d_Te_mayHold_38 : decode b_Te_mayHold 38 = .ok (.goto (-35), 3) := by decide +kernel
theorem d_Te_mayHold_41 : decode b_Te_mayHold 41 = .ok (.iconst 1, 1) := by decide +kernel
theorem d_Te_mayHold_42 : decode b_Te_mayHold 42 = .ok (.ireturn, 1) := by decide +kernel
theorem d_Te_hasRoomFor_0 : decode b_Te_hasRoomFor 0 = .ok (.iconst 0, 1) := by decide +kernel
theorem d_Te_hasRoomFor_1 : decode b_Te_hasRoomFor 1 = .ok (.istore_n 3, 1) := by decide +kernel
theorem d_Te_hasRoomFor_2 : decode b_Te_hasRoomFor 2 = .ok (.bipush 56, 2) := by decide +kernel
theorem d_Te_hasRoomFor_4 : decode b_Te_hasRoomFor 4 = .ok (.istore 4, 2) := by decide +kernel
theorem d_Te_hasRoomFor_6 : decode b_Te_hasRoomFor 6 = .ok (.iload 4, 2) := by decide +kernel
theorem d_Te_hasRoomFor_8 : decode b_Te_hasRoomFor 8 = .ok (.ifCond .lt 26, 3) := by decide +kernel
theorem d_Te_hasRoomFor_11 : decode b_Te_hasRoomFor 11 = .ok (.iload_n 3, 1) := by decide +kernel
theorem d_Te_hasRoomFor_12 : decode b_Te_hasRoomFor 12 = .ok (.lload_n 1, 1) := by decide +kernel
theorem d_Te_hasRoomFor_13 : decode b_Te_hasRoomFor 13 = .ok (.iload 4, 2) := by decide +kernel
theorem d_Te_hasRoomFor_15 : decode b_Te_hasRoomFor 15 = .ok (.invokestatic 29, 3) := by decide +kernel
theorem d_Te_hasRoomFor_18 : decode b_Te_hasRoomFor 18 = .ok (.ifCond .eq 7, 3) := by decide +kernel
theorem d_Te_hasRoomFor_21 : decode b_Te_hasRoomFor 21 = .ok (.iconst 1, 1) := by decide +kernel
theorem d_Te_hasRoomFor_22 : decode b_Te_hasRoomFor 22 = .ok (.goto 4, 3) := by decide +kernel
theorem d_Te_hasRoomFor_25 : decode b_Te_hasRoomFor 25 = .ok (.iconst 0, 1) := by decide +kernel
theorem d_Te_hasRoomFor_26 : decode b_Te_hasRoomFor 26 = .ok (.iadd, 1) := by decide +kernel
theorem d_Te_hasRoomFor_27 : decode b_Te_hasRoomFor 27 = .ok (.istore_n 3, 1) := by decide +kernel
theorem d_Te_hasRoomFor_28 : decode b_Te_hasRoomFor 28 = .ok (.iinc 4 (-8), 3) := by decide +kernel
theorem d_Te_hasRoomFor_31 : decode b_Te_hasRoomFor 31 = .ok (.goto (-25), 3) := by decide +kernel
theorem d_Te_hasRoomFor_34 : decode b_Te_hasRoomFor 34 = .ok (.aload_n 0, 1) := by decide +kernel
theorem d_Te_hasRoomFor_35 : decode b_Te_hasRoomFor 35 = .ok (.getfield 22, 3) := by decide +kernel
theorem d_Te_hasRoomFor_38 : decode b_Te_hasRoomFor 38 = .ok (.iload_n 3, 1) := by decide +kernel
theorem d_Te_hasRoomFor_39 : decode b_Te_hasRoomFor 39 = .ok (.iadd, 1) := by decide +kernel
theorem d_Te_hasRoomFor_40 : decode b_Te_hasRoomFor 40 = .ok (.bipush 48, 2) := by decide +kernel
theorem d_Te_hasRoomFor_42 : decode b_Te_hasRoomFor 42 = .ok (.if_icmp .gt 7, 3) := by decide +kernel
theorem d_Te_hasRoomFor_45 : decode b_Te_hasRoomFor 45 = .ok (.iconst 1, 1) := by decide +kernel
theorem d_Te_hasRoomFor_46 : decode b_Te_hasRoomFor 46 = .ok (.goto 4, 3) := by decide +kernel
theorem d_Te_hasRoomFor_49 : decode b_Te_hasRoomFor 49 = .ok (.iconst 0, 1) := by decide +kernel
theorem d_Te_hasRoomFor_50 : decode b_Te_hasRoomFor 50 = .ok (.ireturn, 1) := by decide +kernel
theorem d_Te_add_0 : decode b_Te_add 0 = .ok (.bipush 56, 2) := by decide +kernel
theorem d_Te_add_2 : decode b_Te_add 2 = .ok (.istore_n 3, 1) := by decide +kernel
theorem d_Te_add_3 : decode b_Te_add 3 = .ok (.iload_n 3, 1) := by decide +kernel
theorem d_Te_add_4 : decode b_Te_add 4 = .ok (.ifCond .lt 55, 3) := by decide +kernel
theorem d_Te_add_7 : decode b_Te_add 7 = .ok (.lload_n 1, 1) := by decide +kernel
theorem d_Te_add_8 : decode b_Te_add 8 = .ok (.iload_n 3, 1) := by decide +kernel
theorem d_Te_add_9 : decode b_Te_add 9 = .ok (.invokestatic 29, 3) := by decide +kernel
theorem d_Te_add_12 : decode b_Te_add 12 = .ok (.istore 4, 2) := by decide +kernel
theorem d_Te_add_14 : decode b_Te_add 14 = .ok (.iload 4, 2) := by decide +kernel
theorem d_Te_add_16 : decode b_Te_add 16 = .ok (.ifCond .eq 37, 3) := by decide +kernel
theorem d_Te_add_19 : decode b_Te_add 19 = .ok (.aload_n 0, 1) := by decide +kernel
theorem d_Te_add_20 : decode b_Te_add 20 = .ok (.getfield 22, 3) := by decide +kernel
theorem d_Te_add_23 : decode b_Te_add 23 = .ok (.aload_n 0, 1) := by decide +kernel
theorem d_Te_add_24 : decode b_Te_add 24 = .ok (.getfield 9, 3) := by decide +kernel
theorem d_Te_add_27 : decode b_Te_add 27 = .ok (.arraylength, 1) := by decide +kernel
theorem d_Te_add_28 : decode b_Te_add 28 = .ok (.if_icmp .ge 25, 3) := by decide +kernel
theorem d_Te_add_31 : decode b_Te_add 31 = .ok (.aload_n 0, 1) := by decide +kernel
theorem d_Te_add_32 : decode b_Te_add 32 = .ok (.getfield 9, 3) := by decide +kernel
theorem d_Te_add_35 : decode b_Te_add 35 = .ok (.aload_n 0, 1) := by decide +kernel
theorem d_Te_add_36 : decode b_Te_add 36 = .ok (.getfield 22, 3) := by decide +kernel
theorem d_Te_add_39 : decode b_Te_add 39 = .ok (.iload 4, 2) := by decide +kernel
theorem d_Te_add_41 : decode b_Te_add 41 = .ok (.i2c, 1) := by decide +kernel
theorem d_Te_add_42 : decode b_Te_add 42 = .ok (.castore, 1) := by decide +kernel
theorem d_Te_add_43 : decode b_Te_add 43 = .ok (.aload_n 0, 1) := by decide +kernel
theorem d_Te_add_44 : decode b_Te_add 44 = .ok (.dup, 1) := by decide +kernel
theorem d_Te_add_45 : decode b_Te_add 45 = .ok (.getfield 22, 3) := by decide +kernel
theorem d_Te_add_48 : decode b_Te_add 48 = .ok (.iconst 1, 1) := by decide +kernel
theorem d_Te_add_49 : decode b_Te_add 49 = .ok (.iadd, 1) := by decide +kernel
theorem d_Te_add_50 : decode b_Te_add 50 = .ok (.putfield 22, 3) := by decide +kernel
theorem d_Te_add_53 : decode b_Te_add 53 = .ok (.iinc 3 (-8), 3) := by decide +kernel
theorem d_Te_add_56 : decode b_Te_add 56 = .ok (.goto (-53), 3) := by decide +kernel
theorem d_Te_add_59 : decode b_Te_add 59 = .ok (.return_, 1) := by decide +kernel
theorem d_Te_empty_0 : decode b_Te_empty 0 = .ok (.aload_n 0, 1) := by decide +kernel
theorem d_Te_empty_1 : decode b_Te_empty 1 = .ok (.iconst 0, 1) := by decide +kernel
theorem d_Te_empty_2 : decode b_Te_empty 2 = .ok (.putfield 22, 3) := by decide +kernel
theorem d_Te_empty_5 : decode b_Te_empty 5 = .ok (.return_, 1) := by decide +kernel
theorem d_Te_read_0 : decode b_Te_read 0 = .ok (.aload_n 0, 1) := by decide +kernel
theorem d_Te_read_1 : decode b_Te_read 1 = .ok (.getfield 18, 3) := by decide +kernel
theorem d_Te_read_4 : decode b_Te_read 4 = .ok (.invokevirtual 33, 3) := by decide +kernel
theorem d_Te_read_7 : decode b_Te_read 7 = .ok (.aload_n 0, 1) := by decide +kernel
theorem d_Te_read_8 : decode b_Te_read 8 = .ok (.iconst 0, 1) := by decide +kernel
theorem d_Te_read_9 : decode b_Te_read 9 = .ok (.putfield 26, 3) := by decide +kernel
theorem d_Te_read_12 : decode b_Te_read 12 = .ok (.aload_n 0, 1) := by decide +kernel
theorem d_Te_read_13 : decode b_Te_read 13 = .ok (.invokevirtual 36, 3) := by decide +kernel
theorem d_Te_read_16 : decode b_Te_read 16 = .ok (.ifCond .ne 5, 3) := by decide +kernel
theorem d_Te_read_19 : decode b_Te_read 19 = .ok (.iconst 0, 1) := by decide +kernel
theorem d_Te_read_20 : decode b_Te_read 20 = .ok (.ireturn, 1) := by decide +kernel
theorem d_Te_read_21 : decode b_Te_read 21 = .ok (.iconst 0, 1) := by decide +kernel
theorem d_Te_read_22 : decode b_Te_read 22 = .ok (.istore_n 1, 1) := by decide +kernel
theorem d_Te_read_23 : decode b_Te_read 23 = .ok (.iload_n 1, 1) := by decide +kernel
theorem d_Te_read_24 : decode b_Te_read 24 = .ok (.bipush 48, 2) := by decide +kernel
theorem d_Te_read_26 : decode b_Te_read 26 = .ok (.if_icmp .ge 68, 3) := by decide +kernel
theorem d_Te_read_29 : decode b_Te_read 29 = .ok (.aload_n 0, 1) := by decide +kernel
theorem d_Te_read_30 : decode b_Te_read 30 = .ok (.invokevirtual 40, 3) := by decide +kernel
theorem d_Te_read_33 : decode b_Te_read 33 = .ok (.ifCond .ne 5, 3) := by decide +kernel
theorem d_Te_read_36 : decode b_Te_read 36 = .ok (.iconst 0, 1) := by decide +kernel
theorem d_Te_read_37 : decode b_Te_read 37 = .ok (.ireturn, 1) := by decide +kernel
theorem d_Te_read_38 : decode b_Te_read 38 = .ok (.aload_n 0, 1) := by decide +kernel
theorem d_Te_read_39 : decode b_Te_read 39 = .ok (.getfield 18, 3) := by decide +kernel
theorem d_Te_read_42 : decode b_Te_read 42 = .ok (.dup, 1) := by decide +kernel
theorem d_Te_read_43 : decode b_Te_read 43 = .ok (.getfield 43, 3) := by decide +kernel
theorem d_Te_read_46 : decode b_Te_read 46 = .ok (.iconst 1, 1) := by decide +kernel
theorem d_Te_read_47 : decode b_Te_read 47 = .ok (.iadd, 1) := by decide +kernel
theorem d_Te_read_48 : decode b_Te_read 48 = .ok (.putfield 43, 3) := by decide +kernel
theorem d_Te_read_51 : decode b_Te_read 51 = .ok (.aload_n 0, 1) := by decide +kernel
theorem d_Te_read_52 : decode b_Te_read 52 = .ok (.bipush 125, 2) := by decide +kernel
theorem d_Te_read_54 : decode b_Te_read 54 = .ok (.invokevirtual 46, 3) := by decide +kernel
theorem d_Te_read_57 : decode b_Te_read 57 = .ok (.ifCond .eq 20, 3) := by decide +kernel
theorem d_Te_read_60 : decode b_Te_read 60 = .ok (.aload_n 0, 1) := by decide +kernel
theorem d_Te_read_61 : decode b_Te_read 61 = .ok (.getfield 26, 3) := by decide +kernel
theorem d_Te_read_64 : decode b_Te_read 64 = .ok (.aload_n 0, 1) := by decide +kernel
theorem d_Te_read_65 : decode b_Te_read 65 = .ok (.getfield 22, 3) := by decide +kernel
theorem d_Te_read_68 : decode b_Te_read 68 = .ok (.if_icmp .ne 7, 3) := by decide +kernel
theorem d_Te_read_71 : decode b_Te_read 71 = .ok (.iconst 1, 1) := by decide +kernel
theorem d_Te_read_72 : decode b_Te_read 72 = .ok (.goto 4, 3) := by decide +kernel
theorem d_Te_read_75 : decode b_Te_read 75 = .ok (.iconst 0, 1) := by decide +kernel
theorem d_Te_read_76 : decode b_Te_read 76 = .ok (.ireturn, 1) := by decide +kernel
theorem d_Te_read_77 : decode b_Te_read 77 = .ok (.aload_n 0, 1) := by decide +kernel
theorem d_Te_read_78 : decode b_Te_read 78 = .ok (.bipush 59, 2) := by decide +kernel
theorem d_Te_read_80 : decode b_Te_read 80 = .ok (.invokevirtual 46, 3) := by decide +kernel
theorem d_Te_read_83 : decode b_Te_read 83 = .ok (.ifCond .ne 5, 3) := by decide +kernel
theorem d_Te_read_86 : decode b_Te_read 86 = .ok (.iconst 0, 1) := by decide +kernel
theorem d_Te_read_87 : decode b_Te_read 87 = .ok (.ireturn, 1) := by decide +kernel
theorem d_Te_read_88 : decode b_Te_read 88 = .ok (.iinc 1 1, 3) := by decide +kernel
theorem d_Te_read_91 : decode b_Te_read 91 = .ok (.goto (-68), 3) := by decide +kernel
theorem d_Te_read_94 : decode b_Te_read 94 = .ok (.iconst 0, 1) := by decide +kernel
theorem d_Te_read_95 : decode b_Te_read 95 = .ok (.ireturn, 1) := by decide +kernel
theorem d_Te_readHead_0 : decode b_Te_readHead 0 = .ok (.aload_n 0, 1) := by decide +kernel
theorem d_Te_readHead_1 : decode b_Te_readHead 1 = .ok (.getfield 18, 3) := by decide +kernel
theorem d_Te_readHead_4 : decode b_Te_readHead 4 = .ok (.aload_n 0, 1) := by decide +kernel
theorem d_Te_readHead_5 : decode b_Te_readHead 5 = .ok (.invokevirtual 50, 3) := by decide +kernel
theorem d_Te_readHead_8 : decode b_Te_readHead 8 = .ok (.bipush 120, 2) := by decide +kernel
theorem d_Te_readHead_10 : decode b_Te_readHead 10 = .ok (.if_icmp .ne 7, 3) := by decide +kernel
theorem d_Te_readHead_13 : decode b_Te_readHead 13 = .ok (.iconst 1, 1) := by decide +kernel
theorem d_Te_readHead_14 : decode b_Te_readHead 14 = .ok (.goto 4, 3) := by decide +kernel
theorem d_Te_readHead_17 : decode b_Te_readHead 17 = .ok (.iconst 0, 1) := by decide +kernel
theorem d_Te_readHead_18 : decode b_Te_readHead 18 = .ok (.putfield 54, 3) := by decide +kernel
theorem d_Te_readHead_21 : decode b_Te_readHead 21 = .ok (.aload_n 0, 1) := by decide +kernel
theorem d_Te_readHead_22 : decode b_Te_readHead 22 = .ok (.bipush 101, 2) := by decide +kernel
theorem d_Te_readHead_24 : decode b_Te_readHead 24 = .ok (.invokevirtual 46, 3) := by decide +kernel
theorem d_Te_readHead_27 : decode b_Te_readHead 27 = .ok (.ifCond .ne 14, 3) := by decide +kernel
theorem d_Te_readHead_30 : decode b_Te_readHead 30 = .ok (.aload_n 0, 1) := by decide +kernel
theorem d_Te_readHead_31 : decode b_Te_readHead 31 = .ok (.bipush 120, 2) := by decide +kernel
theorem d_Te_readHead_33 : decode b_Te_readHead 33 = .ok (.invokevirtual 46, 3) := by decide +kernel
theorem d_Te_readHead_36 : decode b_Te_readHead 36 = .ok (.ifCond .ne 5, 3) := by decide +kernel
theorem d_Te_readHead_39 : decode b_Te_readHead 39 = .ok (.iconst 0, 1) := by decide +kernel
theorem d_Te_readHead_40 : decode b_Te_readHead 40 = .ok (.ireturn, 1) := by decide +kernel
theorem d_Te_readHead_41 : decode b_Te_readHead 41 = .ok (.aload_n 0, 1) := by decide +kernel
theorem d_Te_readHead_42 : decode b_Te_readHead 42 = .ok (.getfield 18, 3) := by decide +kernel
theorem d_Te_readHead_45 : decode b_Te_readHead 45 = .ok (.aload_n 0, 1) := by decide +kernel
theorem d_Te_readHead_46 : decode b_Te_readHead 46 = .ok (.invokevirtual 50, 3) := by decide +kernel
theorem d_Te_readHead_49 : decode b_Te_readHead 49 = .ok (.bipush 48, 2) := by decide +kernel
theorem d_Te_readHead_51 : decode b_Te_readHead 51 = .ok (.isub, 1) := by decide +kernel
theorem d_Te_readHead_52 : decode b_Te_readHead 52 = .ok (.putfield 58, 3) := by decide +kernel
theorem d_Te_readHead_55 : decode b_Te_readHead 55 = .ok (.aload_n 0, 1) := by decide +kernel
theorem d_Te_readHead_56 : decode b_Te_readHead 56 = .ok (.getfield 18, 3) := by decide +kernel
theorem d_Te_readHead_59 : decode b_Te_readHead 59 = .ok (.getfield 58, 3) := by decide +kernel
theorem d_Te_readHead_62 : decode b_Te_readHead 62 = .ok (.bipush 8, 2) := by decide +kernel
theorem d_Te_readHead_64 : decode b_Te_readHead 64 = .ok (.invokestatic 61, 3) := by decide +kernel
theorem d_Te_readHead_67 : decode b_Te_readHead 67 = .ok (.ifCond .ne 5, 3) := by decide +kernel
theorem d_Te_readHead_70 : decode b_Te_readHead 70 = .ok (.iconst 0, 1) := by decide +kernel
theorem d_Te_readHead_71 : decode b_Te_readHead 71 = .ok (.ireturn, 1) := by decide +kernel
theorem d_Te_readHead_72 : decode b_Te_readHead 72 = .ok (.aload_n 0, 1) := by decide +kernel
theorem d_Te_readHead_73 : decode b_Te_readHead 73 = .ok (.dup, 1) := by decide +kernel
theorem d_Te_readHead_74 : decode b_Te_readHead 74 = .ok (.getfield 26, 3) := by decide +kernel
theorem d_Te_readHead_77 : decode b_Te_readHead 77 = .ok (.iconst 1, 1) := by decide +kernel
theorem d_Te_readHead_78 : decode b_Te_readHead 78 = .ok (.iadd, 1) := by decide +kernel
theorem d_Te_readHead_79 : decode b_Te_readHead 79 = .ok (.putfield 26, 3) := by decide +kernel
theorem d_Te_readHead_82 : decode b_Te_readHead 82 = .ok (.aload_n 0, 1) := by decide +kernel
theorem d_Te_readHead_83 : decode b_Te_readHead 83 = .ok (.bipush 47, 2) := by decide +kernel
theorem d_Te_readHead_85 : decode b_Te_readHead 85 = .ok (.invokevirtual 46, 3) := by decide +kernel
theorem d_Te_readHead_88 : decode b_Te_readHead 88 = .ok (.ifCond .eq 40, 3) := by decide +kernel
theorem d_Te_readHead_91 : decode b_Te_readHead 91 = .ok (.aload_n 0, 1) := by decide +kernel
theorem d_Te_readHead_92 : decode b_Te_readHead 92 = .ok (.iconst 0, 1) := by decide +kernel
theorem d_Te_readHead_93 : decode b_Te_readHead 93 = .ok (.iconst 0, 1) := by decide +kernel
theorem d_Te_readHead_94 : decode b_Te_readHead 94 = .ok (.invokevirtual 65, 3) := by decide +kernel
theorem d_Te_readHead_97 : decode b_Te_readHead 97 = .ok (.ifCond .eq 12, 3) := by decide +kernel
theorem d_Te_readHead_100 : decode b_Te_readHead 100 = .ok (.aload_n 0, 1) := by decide +kernel
theorem d_Te_readHead_101 : decode b_Te_readHead 101 = .ok (.bipush 47, 2) := by decide +kernel
theorem d_Te_readHead_103 : decode b_Te_readHead 103 = .ok (.invokevirtual 46, 3) := by decide +kernel
theorem d_Te_readHead_106 : decode b_Te_readHead 106 = .ok (.ifCond .ne 5, 3) := by decide +kernel
theorem d_Te_readHead_109 : decode b_Te_readHead 109 = .ok (.iconst 0, 1) := by decide +kernel
theorem d_Te_readHead_110 : decode b_Te_readHead 110 = .ok (.ireturn, 1) := by decide +kernel
theorem d_Te_readHead_111 : decode b_Te_readHead 111 = .ok (.aload_n 0, 1) := by decide +kernel
theorem d_Te_readHead_112 : decode b_Te_readHead 112 = .ok (.getfield 18, 3) := by decide +kernel
theorem d_Te_readHead_115 : decode b_Te_readHead 115 = .ok (.iconst 1, 1) := by decide +kernel
theorem d_Te_readHead_116 : decode b_Te_readHead 116 = .ok (.putfield 68, 3) := by decide +kernel
theorem d_Te_readHead_119 : decode b_Te_readHead 119 = .ok (.aload_n 0, 1) := by decide +kernel
theorem d_Te_readHead_120 : decode b_Te_readHead 120 = .ok (.getfield 18, 3) := by decide +kernel
theorem d_Te_readHead_123 : decode b_Te_readHead 123 = .ok (.bipush 47, 2) := by decide +kernel
theorem d_Te_readHead_125 : decode b_Te_readHead 125 = .ok (.invokevirtual 71, 3) := by decide +kernel
theorem d_Te_readHead_128 : decode b_Te_readHead 128 = .ok (.aload_n 0, 1) := by decide +kernel
theorem d_Te_readHead_129 : decode b_Te_readHead 129 = .ok (.bipush 123, 2) := by decide +kernel
theorem d_Te_readHead_131 : decode b_Te_readHead 131 = .ok (.invokevirtual 46, 3) := by decide +kernel
theorem d_Te_readHead_134 : decode b_Te_readHead 134 = .ok (.ireturn, 1) := by decide +kernel
theorem d_Te_readAction_0 : decode b_Te_readAction 0 = .ok (.aload_n 0, 1) := by decide +kernel
theorem d_Te_readAction_1 : decode b_Te_readAction 1 = .ok (.invokevirtual 50, 3) := by decide +kernel
theorem d_Te_readAction_4 : decode b_Te_readAction 4 = .ok (.istore_n 1, 1) := by decide +kernel
theorem d_Te_readAction_5 : decode b_Te_readAction 5 = .ok (.iload_n 1, 1) := by decide +kernel
theorem d_Te_readAction_6 : decode b_Te_readAction 6 = .ok (.bipush 64, 2) := by decide +kernel
theorem d_Te_readAction_8 : decode b_Te_readAction 8 = .ok (.if_icmp .ne 18, 3) := by decide +kernel
theorem d_Te_readAction_11 : decode b_Te_readAction 11 = .ok (.aload_n 0, 1) := by decide +kernel
theorem d_Te_readAction_12 : decode b_Te_readAction 12 = .ok (.dup, 1) := by decide +kernel
theorem d_Te_readAction_13 : decode b_Te_readAction 13 = .ok (.getfield 26, 3) := by decide +kernel
theorem d_Te_readAction_16 : decode b_Te_readAction 16 = .ok (.iconst 1, 1) := by decide +kernel
theorem d_Te_readAction_17 : decode b_Te_readAction 17 = .ok (.iadd, 1) := by decide +kernel
theorem d_Te_readAction_18 : decode b_Te_readAction 18 = .ok (.putfield 26, 3) := by decide +kernel
theorem d_Te_readAction_21 : decode b_Te_readAction 21 = .ok (.aload_n 0, 1) := by decide +kernel
theorem d_Te_readAction_22 : decode b_Te_readAction 22 = .ok (.invokevirtual 75, 3) := by decide +kernel
theorem d_Te_readAction_25 : decode b_Te_readAction 25 = .ok (.ireturn, 1) := by decide +kernel
theorem d_Te_readAction_26 : decode b_Te_readAction 26 = .ok (.iload_n 1, 1) := by decide +kernel
theorem d_Te_readAction_27 : decode b_Te_readAction 27 = .ok (.istore_n 2, 1) := by decide +kernel
theorem d_Te_readAction_28 : decode b_Te_readAction 28 = .ok (.iload_n 1, 1) := by decide +kernel
theorem d_Te_readAction_29 : decode b_Te_readAction 29 = .ok (.bipush 117, 2) := by decide +kernel
theorem d_Te_readAction_31 : decode b_Te_readAction 31 = .ok (.if_icmp .lt 38, 3) := by decide +kernel
theorem d_Te_readAction_34 : decode b_Te_readAction 34 = .ok (.iload_n 1, 1) := by decide +kernel
theorem d_Te_readAction_35 : decode b_Te_readAction 35 = .ok (.bipush 122, 2) := by decide +kernel
theorem d_Te_readAction_37 : decode b_Te_readAction 37 = .ok (.if_icmp .gt 32, 3) := by decide +kernel
theorem d_Te_readAction_40 : decode b_Te_readAction 40 = .ok (.aload_n 0, 1) := by decide +kernel
theorem d_Te_readAction_41 : decode b_Te_readAction 41 = .ok (.dup, 1) := by decide +kernel
theorem d_Te_readAction_42 : decode b_Te_readAction 42 = .ok (.getfield 26, 3) := by decide +kernel
theorem d_Te_readAction_45 : decode b_Te_readAction 45 = .ok (.iconst 1, 1) := by decide +kernel
theorem d_Te_readAction_46 : decode b_Te_readAction 46 = .ok (.iadd, 1) := by decide +kernel
theorem d_Te_readAction_47 : decode b_Te_readAction 47 = .ok (.putfield 26, 3) := by decide +kernel
theorem d_Te_readAction_50 : decode b_Te_readAction 50 = .ok (.bipush 85, 2) := by decide +kernel
theorem d_Te_readAction_52 : decode b_Te_readAction 52 = .ok (.iload_n 1, 1) := by decide +kernel
theorem d_Te_readAction_53 : decode b_Te_readAction 53 = .ok (.iadd, 1) := by decide +kernel
theorem d_Te_readAction_54 : decode b_Te_readAction 54 = .ok (.bipush 117, 2) := by decide +kernel
theorem d_Te_readAction_56 : decode b_Te_readAction 56 = .ok (.isub, 1) := by decide +kernel
theorem d_Te_readAction_57 : decode b_Te_readAction 57 = .ok (.istore_n 2, 1) := by decide +kernel
theorem d_Te_readAction_58 : decode b_Te_readAction 58 = .ok (.aload_n 0, 1) := by decide +kernel
theorem d_Te_readAction_59 : decode b_Te_readAction 59 = .ok (.bipush 61, 2) := by decide +kernel
theorem d_Te_readAction_61 : decode b_Te_readAction 61 = .ok (.invokevirtual 46, 3) := by decide +kernel
theorem d_Te_readAction_64 : decode b_Te_readAction 64 = .ok (.ifCond .ne 25, 3) := by decide +kernel
theorem d_Te_readAction_67 : decode b_Te_readAction 67 = .ok (.iconst 0, 1) := by decide +kernel
theorem d_Te_readAction_68 : decode b_Te_readAction 68 = .ok (.ireturn, 1) := by decide +kernel
theorem d_Te_readAction_69 : decode b_Te_readAction 69 = .ok (.aload_n 0, 1) := by decide +kernel
theorem d_Te_readAction_70 : decode b_Te_readAction 70 = .ok (.bipush 33, 2) := by decide +kernel
theorem d_Te_readAction_72 : decode b_Te_readAction 72 = .ok (.invokevirtual 46, 3) := by decide +kernel
theorem d_Te_readAction_75 : decode b_Te_readAction 75 = .ok (.ifCond .ne 14, 3) := by decide +kernel
theorem d_Te_readAction_78 : decode b_Te_readAction 78 = .ok (.aload_n 0, 1) := by decide +kernel
theorem d_Te_readAction_79 : decode b_Te_readAction 79 = .ok (.bipush 63, 2) := by decide +kernel
theorem d_Te_readAction_81 : decode b_Te_readAction 81 = .ok (.invokevirtual 46, 3) := by decide +kernel
theorem d_Te_readAction_84 : decode b_Te_readAction 84 = .ok (.ifCond .ne 5, 3) := by decide +kernel
theorem d_Te_readAction_87 : decode b_Te_readAction 87 = .ok (.iconst 0, 1) := by decide +kernel
theorem d_Te_readAction_88 : decode b_Te_readAction 88 = .ok (.ireturn, 1) := by decide +kernel
theorem d_Te_readAction_89 : decode b_Te_readAction 89 = .ok (.aload_n 0, 1) := by decide +kernel
theorem d_Te_readAction_90 : decode b_Te_readAction 90 = .ok (.iconst 0, 1) := by decide +kernel
theorem d_Te_readAction_91 : decode b_Te_readAction 91 = .ok (.iconst 0, 1) := by decide +kernel
theorem d_Te_readAction_92 : decode b_Te_readAction 92 = .ok (.invokevirtual 65, 3) := by decide +kernel
theorem d_Te_readAction_95 : decode b_Te_readAction 95 = .ok (.ifCond .ne 5, 3) := by decide +kernel
theorem d_Te_readAction_98 : decode b_Te_readAction 98 = .ok (.iconst 0, 1) := by decide +kernel
theorem d_Te_readAction_99 : decode b_Te_readAction 99 = .ok (.ireturn, 1) := by decide +kernel
theorem d_Te_readAction_100 : decode b_Te_readAction 100 = .ok (.aload_n 0, 1) := by decide +kernel
theorem d_Te_readAction_101 : decode b_Te_readAction 101 = .ok (.getfield 18, 3) := by decide +kernel
theorem d_Te_readAction_104 : decode b_Te_readAction 104 = .ok (.iload_n 2, 1) := by decide +kernel
theorem d_Te_readAction_105 : decode b_Te_readAction 105 = .ok (.invokevirtual 71, 3) := by decide +kernel
theorem d_Te_readAction_108 : decode b_Te_readAction 108 = .ok (.iconst 1, 1) := by decide +kernel
theorem d_Te_readAction_109 : decode b_Te_readAction 109 = .ok (.ireturn, 1) := by decide +kernel
theorem d_Te_readGathering_0 : decode b_Te_readGathering 0 = .ok (.aload_n 0, 1) := by decide +kernel
theorem d_Te_readGathering_1 : decode b_Te_readGathering 1 = .ok (.invokevirtual 50, 3) := by decide +kernel
theorem d_Te_readGathering_4 : decode b_Te_readGathering 4 = .ok (.istore_n 1, 1) := by decide +kernel
theorem d_Te_readGathering_5 : decode b_Te_readGathering 5 = .ok (.iload_n 1, 1) := by decide +kernel
theorem d_Te_readGathering_6 : decode b_Te_readGathering 6 = .ok (.bipush 65, 2) := by decide +kernel
theorem d_Te_readGathering_8 : decode b_Te_readGathering 8 = .ok (.if_icmp .lt 9, 3) := by decide +kernel
theorem d_Te_readGathering_11 : decode b_Te_readGathering 11 = .ok (.iload_n 1, 1) := by decide +kernel
theorem d_Te_readGathering_12 : decode b_Te_readGathering 12 = .ok (.bipush 67, 2) := by decide +kernel
theorem d_Te_readGathering_14 : decode b_Te_readGathering 14 = .ok (.if_icmp .le 5, 3) := by decide +kernel
theorem d_Te_readGathering_17 : decode b_Te_readGathering 17 = .ok (.iconst 0, 1) := by decide +kernel
theorem d_Te_readGathering_18 : decode b_Te_readGathering 18 = .ok (.ireturn, 1) := by decide +kernel
theorem d_Te_readGathering_19 : decode b_Te_readGathering 19 = .ok (.aload_n 0, 1) := by decide +kernel
theorem d_Te_readGathering_20 : decode b_Te_readGathering 20 = .ok (.dup, 1) := by decide +kernel
theorem d_Te_readGathering_21 : decode b_Te_readGathering 21 = .ok (.getfield 26, 3) := by decide +kernel
theorem d_Te_readGathering_24 : decode b_Te_readGathering 24 = .ok (.iconst 1, 1) := by decide +kernel
theorem d_Te_readGathering_25 : decode b_Te_readGathering 25 = .ok (.iadd, 1) := by decide +kernel
theorem d_Te_readGathering_26 : decode b_Te_readGathering 26 = .ok (.putfield 26, 3) := by decide +kernel
theorem d_Te_readGathering_29 : decode b_Te_readGathering 29 = .ok (.aload_n 0, 1) := by decide +kernel
theorem d_Te_readGathering_30 : decode b_Te_readGathering 30 = .ok (.bipush 91, 2) := by decide +kernel
theorem d_Te_readGathering_32 : decode b_Te_readGathering 32 = .ok (.invokevirtual 46, 3) := by decide +kernel
theorem d_Te_readGathering_35 : decode b_Te_readGathering 35 = .ok (.ifCond .eq 21, 3) := by decide +kernel
theorem d_Te_readGathering_38 : decode b_Te_readGathering 38 = .ok (.aload_n 0, 1) := by decide +kernel
theorem d_Te_readGathering_39 : decode b_Te_readGathering 39 = .ok (.iconst 0, 1) := by decide +kernel
theorem d_Te_readGathering_40 : decode b_Te_readGathering 40 = .ok (.iconst 0, 1) := by decide +kernel
theorem d_Te_readGathering_41 : decode b_Te_readGathering 41 = .ok (.invokevirtual 65, 3) := by decide +kernel
theorem d_Te_readGathering_44 : decode b_Te_readGathering 44 = .ok (.ifCond .eq 12, 3) := by decide +kernel
theorem d_Te_readGathering_47 : decode b_Te_readGathering 47 = .ok (.aload_n 0, 1) := by decide +kernel
theorem d_Te_readGathering_48 : decode b_Te_readGathering 48 = .ok (.bipush 93, 2) := by decide +kernel
theorem d_Te_readGathering_50 : decode b_Te_readGathering 50 = .ok (.invokevirtual 46, 3) := by decide +kernel
theorem d_Te_readGathering_53 : decode b_Te_readGathering 53 = .ok (.ifCond .ne 5, 3) := by decide +kernel
theorem d_Te_readGathering_56 : decode b_Te_readGathering 56 = .ok (.iconst 0, 1) := by decide +kernel
theorem d_Te_readGathering_57 : decode b_Te_readGathering 57 = .ok (.ireturn, 1) := by decide +kernel
theorem d_Te_readGathering_58 : decode b_Te_readGathering 58 = .ok (.aload_n 0, 1) := by decide +kernel
theorem d_Te_readGathering_59 : decode b_Te_readGathering 59 = .ok (.bipush 61, 2) := by decide +kernel
theorem d_Te_readGathering_61 : decode b_Te_readGathering 61 = .ok (.invokevirtual 46, 3) := by decide +kernel
theorem d_Te_readGathering_64 : decode b_Te_readGathering 64 = .ok (.ifCond .eq 12, 3) := by decide +kernel
theorem d_Te_readGathering_67 : decode b_Te_readGathering 67 = .ok (.aload_n 0, 1) := by decide +kernel
theorem d_Te_readGathering_68 : decode b_Te_readGathering 68 = .ok (.iconst 0, 1) := by decide +kernel
theorem d_Te_readGathering_69 : decode b_Te_readGathering 69 = .ok (.iconst 0, 1) := by decide +kernel
theorem d_Te_readGathering_70 : decode b_Te_readGathering 70 = .ok (.invokevirtual 65, 3) := by decide +kernel
theorem d_Te_readGathering_73 : decode b_Te_readGathering 73 = .ok (.ifCond .ne 5, 3) := by decide +kernel
theorem d_Te_readGathering_76 : decode b_Te_readGathering 76 = .ok (.iconst 0, 1) := by decide +kernel
theorem d_Te_readGathering_77 : decode b_Te_readGathering 77 = .ok (.ireturn, 1) := by decide +kernel
theorem d_Te_readGathering_78 : decode b_Te_readGathering 78 = .ok (.aload_n 0, 1) := by decide +kernel
theorem d_Te_readGathering_79 : decode b_Te_readGathering 79 = .ok (.getfield 18, 3) := by decide +kernel
theorem d_Te_readGathering_82 : decode b_Te_readGathering 82 = .ok (.iload_n 1, 1) := by decide +kernel
theorem d_Te_readGathering_83 : decode b_Te_readGathering 83 = .ok (.invokevirtual 71, 3) := by decide +kernel
theorem d_Te_readGathering_86 : decode b_Te_readGathering 86 = .ok (.iconst 1, 1) := by decide +kernel
theorem d_Te_readGathering_87 : decode b_Te_readGathering 87 = .ok (.ireturn, 1) := by decide +kernel
theorem d_Te_readLevel_0 : decode b_Te_readLevel 0 = .ok (.iload_n 1, 1) := by decide +kernel
theorem d_Te_readLevel_1 : decode b_Te_readLevel 1 = .ok (.iconst 2, 1) := by decide +kernel
theorem d_Te_readLevel_2 : decode b_Te_readLevel 2 = .ok (.if_icmp .le 9, 3) := by decide +kernel
theorem d_Te_readLevel_5 : decode b_Te_readLevel 5 = .ok (.aload_n 0, 1) := by decide +kernel
theorem d_Te_readLevel_6 : decode b_Te_readLevel 6 = .ok (.iload_n 2, 1) := by decide +kernel
theorem d_Te_readLevel_7 : decode b_Te_readLevel 7 = .ok (.invokevirtual 78, 3) := by decide +kernel
theorem d_Te_readLevel_10 : decode b_Te_readLevel 10 = .ok (.ireturn, 1) := by decide +kernel
theorem d_Te_readLevel_11 : decode b_Te_readLevel 11 = .ok (.aload_n 0, 1) := by decide +kernel
theorem d_Te_readLevel_12 : decode b_Te_readLevel 12 = .ok (.iload_n 1, 1) := by decide +kernel
theorem d_Te_readLevel_13 : decode b_Te_readLevel 13 = .ok (.iconst 1, 1) := by decide +kernel
theorem d_Te_readLevel_14 : decode b_Te_readLevel 14 = .ok (.iadd, 1) := by decide +kernel
theorem d_Te_readLevel_15 : decode b_Te_readLevel 15 = .ok (.iload_n 2, 1) := by decide +kernel
theorem d_Te_readLevel_16 : decode b_Te_readLevel 16 = .ok (.invokevirtual 65, 3) := by decide +kernel
theorem d_Te_readLevel_19 : decode b_Te_readLevel 19 = .ok (.ifCond .ne 5, 3) := by decide +kernel
theorem d_Te_readLevel_22 : decode b_Te_readLevel 22 = .ok (.iconst 0, 1) := by decide +kernel
theorem d_Te_readLevel_23 : decode b_Te_readLevel 23 = .ok (.ireturn, 1) := by decide +kernel
theorem d_Te_readLevel_24 : decode b_Te_readLevel 24 = .ok (.iload_n 1, 1) := by decide +kernel
theorem d_Te_readLevel_25 : decode b_Te_readLevel 25 = .ok (.ifCond .ne 7, 3) := by decide +kernel
theorem d_Te_readLevel_28 : decode b_Te_readLevel 28 = .ok (.iconst 1, 1) := by decide +kernel
theorem d_Te_readLevel_29 : decode b_Te_readLevel 29 = .ok (.goto 5, 3) := by decide +kernel
theorem d_Te_readLevel_32 : decode b_Te_readLevel 32 = .ok (.bipush 48, 2) := by decide +kernel
theorem d_Te_readLevel_34 : decode b_Te_readLevel 34 = .ok (.istore_n 3, 1) := by decide +kernel
theorem d_Te_readLevel_35 : decode b_Te_readLevel 35 = .ok (.iconst 0, 1) := by decide +kernel
theorem d_Te_readLevel_36 : decode b_Te_readLevel 36 = .ok (.istore 4, 2) := by decide +kernel
theorem d_Te_readLevel_38 : decode b_Te_readLevel 38 = .ok (.iload 4, 2) := by decide +kernel
theorem d_Te_readLevel_40 : decode b_Te_readLevel 40 = .ok (.iload_n 3, 1) := by decide +kernel
theorem d_Te_readLevel_41 : decode b_Te_readLevel 41 = .ok (.if_icmp .ge 58, 3) := by decide +kernel
theorem d_Te_readLevel_44 : decode b_Te_readLevel 44 = .ok (.aload_n 0, 1) := by decide +kernel
theorem d_Te_readLevel_45 : decode b_Te_readLevel 45 = .ok (.invokevirtual 50, 3) := by decide +kernel
theorem d_Te_readLevel_48 : decode b_Te_readLevel 48 = .ok (.invokestatic 82, 3) := by decide +kernel
theorem d_Te_readLevel_51 : decode b_Te_readLevel 51 = .ok (.iload_n 1, 1) := by decide +kernel
theorem d_Te_readLevel_52 : decode b_Te_readLevel 52 = .ok (.if_icmp .ne 47, 3) := by decide +kernel
theorem d_Te_readLevel_55 : decode b_Te_readLevel 55 = .ok (.aload_n 0, 1) := by decide +kernel
theorem d_Te_readLevel_56 : decode b_Te_readLevel 56 = .ok (.invokevirtual 50, 3) := by decide +kernel
theorem d_Te_readLevel_59 : decode b_Te_readLevel 59 = .ok (.istore 5, 2) := by decide +kernel
theorem d_Te_readLevel_61 : decode b_Te_readLevel 61 = .ok (.aload_n 0, 1) := by decide +kernel
theorem d_Te_readLevel_62 : decode b_Te_readLevel 62 = .ok (.dup, 1) := by decide +kernel
theorem d_Te_readLevel_63 : decode b_Te_readLevel 63 = .ok (.getfield 26, 3) := by decide +kernel
theorem d_Te_readLevel_66 : decode b_Te_readLevel 66 = .ok (.iconst 1, 1) := by decide +kernel
theorem d_Te_readLevel_67 : decode b_Te_readLevel 67 = .ok (.iadd, 1) := by decide +kernel
theorem d_Te_readLevel_68 : decode b_Te_readLevel 68 = .ok (.putfield 26, 3) := by decide +kernel
theorem d_Te_readLevel_71 : decode b_Te_readLevel 71 = .ok (.aload_n 0, 1) := by decide +kernel
theorem d_Te_readLevel_72 : decode b_Te_readLevel 72 = .ok (.iload_n 1, 1) := by decide +kernel
theorem d_Te_readLevel_73 : decode b_Te_readLevel 73 = .ok (.iconst 1, 1) := by decide +kernel
theorem d_Te_readLevel_74 : decode b_Te_readLevel 74 = .ok (.iadd, 1) := by decide +kernel
theorem d_Te_readLevel_75 : decode b_Te_readLevel 75 = .ok (.iload_n 2, 1) := by decide +kernel
theorem d_Te_readLevel_76 : decode b_Te_readLevel 76 = .ok (.invokevirtual 65, 3) := by decide +kernel
theorem d_Te_readLevel_79 : decode b_Te_readLevel 79 = .ok (.ifCond .ne 5, 3) := by decide +kernel
theorem d_Te_readLevel_82 : decode b_Te_readLevel 82 = .ok (.iconst 0, 1) := by decide +kernel
theorem d_Te_readLevel_83 : decode b_Te_readLevel 83 = .ok (.ireturn, 1) := by decide +kernel
theorem d_Te_readLevel_84 : decode b_Te_readLevel 84 = .ok (.aload_n 0, 1) := by decide +kernel
theorem d_Te_readLevel_85 : decode b_Te_readLevel 85 = .ok (.getfield 18, 3) := by decide +kernel
theorem d_Te_readLevel_88 : decode b_Te_readLevel 88 = .ok (.iload 5, 2) := by decide +kernel
theorem d_Te_readLevel_90 : decode b_Te_readLevel 90 = .ok (.invokevirtual 71, 3) := by decide +kernel
theorem d_Te_readLevel_93 : decode b_Te_readLevel 93 = .ok (.iinc 4 1, 3) := by decide +kernel
theorem d_Te_readLevel_96 : decode b_Te_readLevel 96 = .ok (.goto (-58), 3) := by decide +kernel
theorem d_Te_readLevel_99 : decode b_Te_readLevel 99 = .ok (.iconst 1, 1) := by decide +kernel
theorem d_Te_readLevel_100 : decode b_Te_readLevel 100 = .ok (.ireturn, 1) := by decide +kernel
theorem d_Te_readUnit_0 : decode b_Te_readUnit 0 = .ok (.aload_n 0, 1) := by decide +kernel
theorem d_Te_readUnit_1 : decode b_Te_readUnit 1 = .ok (.invokevirtual 50, 3) := by decide +kernel
theorem d_Te_readUnit_4 : decode b_Te_readUnit 4 = .ok (.istore_n 2, 1) := by decide +kernel
theorem d_Te_readUnit_5 : decode b_Te_readUnit 5 = .ok (.iload_n 2, 1) := by decide +kernel
theorem d_Te_readUnit_6 : decode b_Te_readUnit 6 = .ok (.invokestatic 86, 3) := by decide +kernel
theorem d_Te_readUnit_9 : decode b_Te_readUnit 9 = .ok (.ifCond .eq 9, 3) := by decide +kernel
theorem d_Te_readUnit_12 : decode b_Te_readUnit 12 = .ok (.aload_n 0, 1) := by decide +kernel
theorem d_Te_readUnit_13 : decode b_Te_readUnit 13 = .ok (.invokevirtual 89, 3) := by decide +kernel
theorem d_Te_readUnit_16 : decode b_Te_readUnit 16 = .ok (.iconst 1, 1) := by decide +kernel
theorem d_Te_readUnit_17 : decode b_Te_readUnit 17 = .ok (.ireturn, 1) := by decide +kernel
theorem d_Te_readUnit_18 : decode b_Te_readUnit 18 = .ok (.iload_n 2, 1) := by decide +kernel
theorem d_Te_readUnit_19 : decode b_Te_readUnit 19 = .ok (.invokestatic 92, 3) := by decide +kernel
theorem d_Te_readUnit_22 : decode b_Te_readUnit 22 = .ok (.ifCond .eq 23, 3) := by decide +kernel
theorem d_Te_readUnit_25 : decode b_Te_readUnit 25 = .ok (.aload_n 0, 1) := by decide +kernel
theorem d_Te_readUnit_26 : decode b_Te_readUnit 26 = .ok (.dup, 1) := by decide +kernel
theorem d_Te_readUnit_27 : decode b_Te_readUnit 27 = .ok (.getfield 26, 3) := by decide +kernel
theorem d_Te_readUnit_30 : decode b_Te_readUnit 30 = .ok (.iconst 1, 1) := by decide +kernel
theorem d_Te_readUnit_31 : decode b_Te_readUnit 31 = .ok (.iadd, 1) := by decide +kernel
theorem d_Te_readUnit_32 : decode b_Te_readUnit 32 = .ok (.putfield 26, 3) := by decide +kernel
theorem d_Te_readUnit_35 : decode b_Te_readUnit 35 = .ok (.aload_n 0, 1) := by decide +kernel
theorem d_Te_readUnit_36 : decode b_Te_readUnit 36 = .ok (.getfield 18, 3) := by decide +kernel
theorem d_Te_readUnit_39 : decode b_Te_readUnit 39 = .ok (.iload_n 2, 1) := by decide +kernel
theorem d_Te_readUnit_40 : decode b_Te_readUnit 40 = .ok (.invokevirtual 71, 3) := by decide +kernel
theorem d_Te_readUnit_43 : decode b_Te_readUnit 43 = .ok (.iconst 1, 1) := by decide +kernel
theorem d_Te_readUnit_44 : decode b_Te_readUnit 44 = .ok (.ireturn, 1) := by decide +kernel
theorem d_Te_readUnit_45 : decode b_Te_readUnit 45 = .ok (.iload_n 2, 1) := by decide +kernel
theorem d_Te_readUnit_46 : decode b_Te_readUnit 46 = .ok (.bipush 40, 2) := by decide +kernel
theorem d_Te_readUnit_48 : decode b_Te_readUnit 48 = .ok (.if_icmp .eq 9, 3) := by decide +kernel
theorem d_Te_readUnit_51 : decode b_Te_readUnit 51 = .ok (.iload_n 2, 1) := by decide +kernel
theorem d_Te_readUnit_52 : decode b_Te_readUnit 52 = .ok (.bipush 45, 2) := by decide +kernel
theorem d_Te_readUnit_54 : decode b_Te_readUnit 54 = .ok (.if_icmp .ne 8, 3) := by decide +kernel
theorem d_Te_readUnit_57 : decode b_Te_readUnit 57 = .ok (.iload_n 1, 1) := by decide +kernel
theorem d_Te_readUnit_58 : decode b_Te_readUnit 58 = .ok (.iconst 5, 1) := by decide +kernel
theorem d_Te_readUnit_59 : decode b_Te_readUnit 59 = .ok (.if_icmp .lt 5, 3) := by decide +kernel
theorem d_Te_readUnit_62 : decode b_Te_readUnit 62 = .ok (.iconst 0, 1) := by decide +kernel
theorem d_Te_readUnit_63 : decode b_Te_readUnit 63 = .ok (.ireturn, 1) := by decide +kernel
theorem d_Te_readUnit_64 : decode b_Te_readUnit 64 = .ok (.aload_n 0, 1) := by decide +kernel
theorem d_Te_readUnit_65 : decode b_Te_readUnit 65 = .ok (.dup, 1) := by decide +kernel
theorem d_Te_readUnit_66 : decode b_Te_readUnit 66 = .ok (.getfield 26, 3) := by decide +kernel
theorem d_Te_readUnit_69 : decode b_Te_readUnit 69 = .ok (.iconst 1, 1) := by decide +kernel
theorem d_Te_readUnit_70 : decode b_Te_readUnit 70 = .ok (.iadd, 1) := by decide +kernel
theorem d_Te_readUnit_71 : decode b_Te_readUnit 71 = .ok (.putfield 26, 3) := by decide +kernel
theorem d_Te_readUnit_74 : decode b_Te_readUnit 74 = .ok (.iload_n 2, 1) := by decide +kernel
theorem d_Te_readUnit_75 : decode b_Te_readUnit 75 = .ok (.bipush 40, 2) := by decide +kernel
theorem d_Te_readUnit_77 : decode b_Te_readUnit 77 = .ok (.if_icmp .ne 29, 3) := by decide +kernel
theorem d_Te_readUnit_80 : decode b_Te_readUnit 80 = .ok (.aload_n 0, 1) := by decide +kernel
theorem d_Te_readUnit_81 : decode b_Te_readUnit 81 = .ok (.iconst 0, 1) := by decide +kernel
theorem d_Te_readUnit_82 : decode b_Te_readUnit 82 = .ok (.iload_n 1, 1) := by decide +kernel
theorem d_Te_readUnit_83 : decode b_Te_readUnit 83 = .ok (.iconst 1, 1) := by decide +kernel
theorem d_Te_readUnit_84 : decode b_Te_readUnit 84 = .ok (.iadd, 1) := by decide +kernel
theorem d_Te_readUnit_85 : decode b_Te_readUnit 85 = .ok (.invokevirtual 65, 3) := by decide +kernel
theorem d_Te_readUnit_88 : decode b_Te_readUnit 88 = .ok (.ifCond .eq 16, 3) := by decide +kernel
theorem d_Te_readUnit_91 : decode b_Te_readUnit 91 = .ok (.aload_n 0, 1) := by decide +kernel
theorem d_Te_readUnit_92 : decode b_Te_readUnit 92 = .ok (.bipush 41, 2) := by decide +kernel
theorem d_Te_readUnit_94 : decode b_Te_readUnit 94 = .ok (.invokevirtual 46, 3) := by decide +kernel
theorem d_Te_readUnit_97 : decode b_Te_readUnit 97 = .ok (.ifCond .eq 7, 3) := by decide +kernel
theorem d_Te_readUnit_100 : decode b_Te_readUnit 100 = .ok (.iconst 1, 1) := by decide +kernel
theorem d_Te_readUnit_101 : decode b_Te_readUnit 101 = .ok (.goto 4, 3) := by decide +kernel
theorem d_Te_readUnit_104 : decode b_Te_readUnit 104 = .ok (.iconst 0, 1) := by decide +kernel
theorem d_Te_readUnit_105 : decode b_Te_readUnit 105 = .ok (.ireturn, 1) := by decide +kernel
theorem d_Te_readUnit_106 : decode b_Te_readUnit 106 = .ok (.aload_n 0, 1) := by decide +kernel
theorem d_Te_readUnit_107 : decode b_Te_readUnit 107 = .ok (.iload_n 1, 1) := by decide +kernel
theorem d_Te_readUnit_108 : decode b_Te_readUnit 108 = .ok (.iconst 1, 1) := by decide +kernel
theorem d_Te_readUnit_109 : decode b_Te_readUnit 109 = .ok (.iadd, 1) := by decide +kernel
theorem d_Te_readUnit_110 : decode b_Te_readUnit 110 = .ok (.invokevirtual 78, 3) := by decide +kernel
theorem d_Te_readUnit_113 : decode b_Te_readUnit 113 = .ok (.ifCond .ne 5, 3) := by decide +kernel
theorem d_Te_readUnit_116 : decode b_Te_readUnit 116 = .ok (.iconst 0, 1) := by decide +kernel
theorem d_Te_readUnit_117 : decode b_Te_readUnit 117 = .ok (.ireturn, 1) := by decide +kernel
theorem d_Te_readUnit_118 : decode b_Te_readUnit 118 = .ok (.aload_n 0, 1) := by decide +kernel
theorem d_Te_readUnit_119 : decode b_Te_readUnit 119 = .ok (.getfield 18, 3) := by decide +kernel
theorem d_Te_readUnit_122 : decode b_Te_readUnit 122 = .ok (.bipush 126, 2) := by decide +kernel
theorem d_Te_readUnit_124 : decode b_Te_readUnit 124 = .ok (.invokevirtual 71, 3) := by decide +kernel
theorem d_Te_readUnit_127 : decode b_Te_readUnit 127 = .ok (.iconst 1, 1) := by decide +kernel
theorem d_Te_readUnit_128 : decode b_Te_readUnit 128 = .ok (.ireturn, 1) := by decide +kernel
theorem d_Te_readNumber_0 : decode b_Te_readNumber 0 = .ok (.iconst 0, 1) := by decide +kernel
theorem d_Te_readNumber_1 : decode b_Te_readNumber 1 = .ok (.istore_n 1, 1) := by decide +kernel
theorem d_Te_readNumber_2 : decode b_Te_readNumber 2 = .ok (.iconst 0, 1) := by decide +kernel
theorem d_Te_readNumber_3 : decode b_Te_readNumber 3 = .ok (.istore_n 2, 1) := by decide +kernel
theorem d_Te_readNumber_4 : decode b_Te_readNumber 4 = .ok (.iload_n 2, 1) := by decide +kernel
theorem d_Te_readNumber_5 : decode b_Te_readNumber 5 = .ok (.iconst 3, 1) := by decide +kernel
theorem d_Te_readNumber_6 : decode b_Te_readNumber 6 = .ok (.if_icmp .ge 42, 3) := by decide +kernel
theorem d_Te_readNumber_9 : decode b_Te_readNumber 9 = .ok (.aload_n 0, 1) := by decide +kernel
theorem d_Te_readNumber_10 : decode b_Te_readNumber 10 = .ok (.invokevirtual 50, 3) := by decide +kernel
theorem d_Te_readNumber_13 : decode b_Te_readNumber 13 = .ok (.invokestatic 86, 3) := by decide +kernel
theorem d_Te_readNumber_16 : decode b_Te_readNumber 16 = .ok (.ifCond .eq 32, 3) := by decide +kernel
theorem d_Te_readNumber_19 : decode b_Te_readNumber 19 = .ok (.iload_n 1, 1) := by decide +kernel
theorem d_Te_readNumber_20 : decode b_Te_readNumber 20 = .ok (.bipush 10, 2) := by decide +kernel
theorem d_Te_readNumber_22 : decode b_Te_readNumber 22 = .ok (.imul, 1) := by decide +kernel
theorem d_Te_readNumber_23 : decode b_Te_readNumber 23 = .ok (.aload_n 0, 1) := by decide +kernel
theorem d_Te_readNumber_24 : decode b_Te_readNumber 24 = .ok (.invokevirtual 50, 3) := by decide +kernel
theorem d_Te_readNumber_27 : decode b_Te_readNumber 27 = .ok (.bipush 48, 2) := by decide +kernel
theorem d_Te_readNumber_29 : decode b_Te_readNumber 29 = .ok (.isub, 1) := by decide +kernel
theorem d_Te_readNumber_30 : decode b_Te_readNumber 30 = .ok (.iadd, 1) := by decide +kernel
theorem d_Te_readNumber_31 : decode b_Te_readNumber 31 = .ok (.istore_n 1, 1) := by decide +kernel
theorem d_Te_readNumber_32 : decode b_Te_readNumber 32 = .ok (.aload_n 0, 1) := by decide +kernel
theorem d_Te_readNumber_33 : decode b_Te_readNumber 33 = .ok (.dup, 1) := by decide +kernel
theorem d_Te_readNumber_34 : decode b_Te_readNumber 34 = .ok (.getfield 26, 3) := by decide +kernel
theorem d_Te_readNumber_37 : decode b_Te_readNumber 37 = .ok (.iconst 1, 1) := by decide +kernel
theorem d_Te_readNumber_38 : decode b_Te_readNumber 38 = .ok (.iadd, 1) := by decide +kernel
theorem d_Te_readNumber_39 : decode b_Te_readNumber 39 = .ok (.putfield 26, 3) := by decide +kernel
theorem d_Te_readNumber_42 : decode b_Te_readNumber 42 = .ok (.iinc 2 1, 3) := by decide +kernel
theorem d_Te_readNumber_45 : decode b_Te_readNumber 45 = .ok (.goto (-41), 3) := by decide +kernel
theorem d_Te_readNumber_48 : decode b_Te_readNumber 48 = .ok (.aload_n 0, 1) := by decide +kernel
theorem d_Te_readNumber_49 : decode b_Te_readNumber 49 = .ok (.getfield 18, 3) := by decide +kernel
theorem d_Te_readNumber_52 : decode b_Te_readNumber 52 = .ok (.sipush 256, 3) := by decide +kernel
theorem d_Te_readNumber_55 : decode b_Te_readNumber 55 = .ok (.iload_n 1, 1) := by decide +kernel
theorem d_Te_readNumber_56 : decode b_Te_readNumber 56 = .ok (.iadd, 1) := by decide +kernel
theorem d_Te_readNumber_57 : decode b_Te_readNumber 57 = .ok (.invokevirtual 71, 3) := by decide +kernel
theorem d_Te_readNumber_60 : decode b_Te_readNumber 60 = .ok (.return_, 1) := by decide +kernel
theorem d_Te_next_0 : decode b_Te_next 0 = .ok (.aload_n 0, 1) := by decide +kernel
theorem d_Te_next_1 : decode b_Te_next 1 = .ok (.getfield 26, 3) := by decide +kernel
theorem d_Te_next_4 : decode b_Te_next 4 = .ok (.aload_n 0, 1) := by decide +kernel
theorem d_Te_next_5 : decode b_Te_next 5 = .ok (.getfield 22, 3) := by decide +kernel
theorem d_Te_next_8 : decode b_Te_next 8 = .ok (.if_icmp .ge 27, 3) := by decide +kernel
theorem d_Te_next_11 : decode b_Te_next 11 = .ok (.aload_n 0, 1) := by decide +kernel
theorem d_Te_next_12 : decode b_Te_next 12 = .ok (.getfield 26, 3) := by decide +kernel
theorem d_Te_next_15 : decode b_Te_next 15 = .ok (.aload_n 0, 1) := by decide +kernel
theorem d_Te_next_16 : decode b_Te_next 16 = .ok (.getfield 9, 3) := by decide +kernel
theorem d_Te_next_19 : decode b_Te_next 19 = .ok (.arraylength, 1) := by decide +kernel
theorem d_Te_next_20 : decode b_Te_next 20 = .ok (.if_icmp .ge 15, 3) := by decide +kernel
theorem d_Te_next_23 : decode b_Te_next 23 = .ok (.aload_n 0, 1) := by decide +kernel
theorem d_Te_next_24 : decode b_Te_next 24 = .ok (.getfield 9, 3) := by decide +kernel
theorem d_Te_next_27 : decode b_Te_next 27 = .ok (.aload_n 0, 1) := by decide +kernel
theorem d_Te_next_28 : decode b_Te_next 28 = .ok (.getfield 26, 3) := by decide +kernel
theorem d_Te_next_31 : decode b_Te_next 31 = .ok (.caload, 1) := by decide +kernel
theorem d_Te_next_32 : decode b_Te_next 32 = .ok (.goto 4, 3) := by decide +kernel
theorem d_Te_next_35 : decode b_Te_next 35 = .ok (.iconst 0, 1) := by decide +kernel
theorem d_Te_next_36 : decode b_Te_next 36 = .ok (.ireturn, 1) := by decide +kernel
theorem d_Te_pass_0 : decode b_Te_pass 0 = .ok (.aload_n 0, 1) := by decide +kernel
theorem d_Te_pass_1 : decode b_Te_pass 1 = .ok (.invokevirtual 50, 3) := by decide +kernel
theorem d_Te_pass_4 : decode b_Te_pass 4 = .ok (.iload_n 1, 1) := by decide +kernel
theorem d_Te_pass_5 : decode b_Te_pass 5 = .ok (.if_icmp .eq 5, 3) := by decide +kernel
theorem d_Te_pass_8 : decode b_Te_pass 8 = .ok (.iconst 0, 1) := by decide +kernel
theorem d_Te_pass_9 : decode b_Te_pass 9 = .ok (.ireturn, 1) := by decide +kernel
theorem d_Te_pass_10 : decode b_Te_pass 10 = .ok (.aload_n 0, 1) := by decide +kernel
theorem d_Te_pass_11 : decode b_Te_pass 11 = .ok (.dup, 1) := by decide +kernel
theorem d_Te_pass_12 : decode b_Te_pass 12 = .ok (.getfield 26, 3) := by decide +kernel
theorem d_Te_pass_15 : decode b_Te_pass 15 = .ok (.iconst 1, 1) := by decide +kernel
theorem d_Te_pass_16 : decode b_Te_pass 16 = .ok (.iadd, 1) := by decide +kernel
theorem d_Te_pass_17 : decode b_Te_pass 17 = .ok (.putfield 26, 3) := by decide +kernel
theorem d_Te_pass_20 : decode b_Te_pass 20 = .ok (.iconst 1, 1) := by decide +kernel
theorem d_Te_pass_21 : decode b_Te_pass 21 = .ok (.ireturn, 1) := by decide +kernel
theorem d_Te_byteAt_0 : decode b_Te_byteAt 0 = .ok (.lload_n 0, 1) := by decide +kernel
theorem d_Te_byteAt_1 : decode b_Te_byteAt 1 = .ok (.iload_n 2, 1) := by decide +kernel
theorem d_Te_byteAt_2 : decode b_Te_byteAt 2 = .ok (.lushr, 1) := by decide +kernel
theorem d_Te_byteAt_3 : decode b_Te_byteAt 3 = .ok (.l2i, 1) := by decide +kernel
theorem d_Te_byteAt_4 : decode b_Te_byteAt 4 = .ok (.sipush 255, 3) := by decide +kernel
theorem d_Te_byteAt_7 : decode b_Te_byteAt 7 = .ok (.iand, 1) := by decide +kernel
theorem d_Te_byteAt_8 : decode b_Te_byteAt 8 = .ok (.ireturn, 1) := by decide +kernel
theorem d_Te_levelOf_0 : decode b_Te_levelOf 0 = .ok (.iload_n 0, 1) := by decide +kernel
theorem d_Te_levelOf_1 : decode b_Te_levelOf 1 = .ok (.tableswitch 105 42 62 #[103, 101, 105, 101, 105, 105, 105, 105, 105, 105, 105, 105, 105, 105, 105, 105, 103, 105, 99, 99, 99], 99) := by decide +kernel
theorem d_Te_levelOf_100 : decode b_Te_levelOf 100 = .ok (.iconst 0, 1) := by decide +kernel
theorem d_Te_levelOf_101 : decode b_Te_levelOf 101 = .ok (.ireturn, 1) := by decide +kernel
theorem d_Te_levelOf_102 : decode b_Te_levelOf 102 = .ok (.iconst 1, 1) := by decide +kernel
theorem d_Te_levelOf_103 : decode b_Te_levelOf 103 = .ok (.ireturn, 1) := by decide +kernel
theorem d_Te_levelOf_104 : decode b_Te_levelOf 104 = .ok (.iconst 2, 1) := by decide +kernel
theorem d_Te_levelOf_105 : decode b_Te_levelOf 105 = .ok (.ireturn, 1) := by decide +kernel
theorem d_Te_levelOf_106 : decode b_Te_levelOf 106 = .ok (.iconst (-1), 1) := by decide +kernel
theorem d_Te_levelOf_107 : decode b_Te_levelOf 107 = .ok (.ireturn, 1) := by decide +kernel
theorem d_Te_isDigit_0 : decode b_Te_isDigit 0 = .ok (.iload_n 0, 1) := by decide +kernel
theorem d_Te_isDigit_1 : decode b_Te_isDigit 1 = .ok (.bipush 48, 2) := by decide +kernel
theorem d_Te_isDigit_3 : decode b_Te_isDigit 3 = .ok (.if_icmp .lt 13, 3) := by decide +kernel
theorem d_Te_isDigit_6 : decode b_Te_isDigit 6 = .ok (.iload_n 0, 1) := by decide +kernel
theorem d_Te_isDigit_7 : decode b_Te_isDigit 7 = .ok (.bipush 57, 2) := by decide +kernel
theorem d_Te_isDigit_9 : decode b_Te_isDigit 9 = .ok (.if_icmp .gt 7, 3) := by decide +kernel
theorem d_Te_isDigit_12 : decode b_Te_isDigit 12 = .ok (.iconst 1, 1) := by decide +kernel
theorem d_Te_isDigit_13 : decode b_Te_isDigit 13 = .ok (.goto 4, 3) := by decide +kernel
theorem d_Te_isDigit_16 : decode b_Te_isDigit 16 = .ok (.iconst 0, 1) := by decide +kernel
theorem d_Te_isDigit_17 : decode b_Te_isDigit 17 = .ok (.ireturn, 1) := by decide +kernel
theorem d_Te_isName_0 : decode b_Te_isName 0 = .ok (.iload_n 0, 1) := by decide +kernel
theorem d_Te_isName_1 : decode b_Te_isName 1 = .ok (.bipush 97, 2) := by decide +kernel
theorem d_Te_isName_3 : decode b_Te_isName 3 = .ok (.if_icmp .lt 9, 3) := by decide +kernel
theorem d_Te_isName_6 : decode b_Te_isName 6 = .ok (.iload_n 0, 1) := by decide +kernel
theorem d_Te_isName_7 : decode b_Te_isName 7 = .ok (.bipush 99, 2) := by decide +kernel
theorem d_Te_isName_9 : decode b_Te_isName 9 = .ok (.if_icmp .le 27, 3) := by decide +kernel
theorem d_Te_isName_12 : decode b_Te_isName 12 = .ok (.iload_n 0, 1) := by decide +kernel
theorem d_Te_isName_13 : decode b_Te_isName 13 = .ok (.bipush 117, 2) := by decide +kernel
theorem d_Te_isName_15 : decode b_Te_isName 15 = .ok (.if_icmp .lt 9, 3) := by decide +kernel
theorem d_Te_isName_18 : decode b_Te_isName 18 = .ok (.iload_n 0, 1) := by decide +kernel
theorem d_Te_isName_19 : decode b_Te_isName 19 = .ok (.bipush 122, 2) := by decide +kernel
theorem d_Te_isName_21 : decode b_Te_isName 21 = .ok (.if_icmp .le 15, 3) := by decide +kernel
theorem d_Te_isName_24 : decode b_Te_isName 24 = .ok (.iload_n 0, 1) := by decide +kernel
theorem d_Te_isName_25 : decode b_Te_isName 25 = .ok (.bipush 116, 2) := by decide +kernel
theorem d_Te_isName_27 : decode b_Te_isName 27 = .ok (.if_icmp .eq 9, 3) := by decide +kernel
theorem d_Te_isName_30 : decode b_Te_isName 30 = .ok (.iload_n 0, 1) := by decide +kernel
theorem d_Te_isName_31 : decode b_Te_isName 31 = .ok (.bipush 107, 2) := by decide +kernel
theorem d_Te_isName_33 : decode b_Te_isName 33 = .ok (.if_icmp .ne 7, 3) := by decide +kernel
theorem d_Te_isName_36 : decode b_Te_isName 36 = .ok (.iconst 1, 1) := by decide +kernel
theorem d_Te_isName_37 : decode b_Te_isName 37 = .ok (.goto 4, 3) := by decide +kernel
theorem d_Te_isName_40 : decode b_Te_isName 40 = .ok (.iconst 0, 1) := by decide +kernel
theorem d_Te_isName_41 : decode b_Te_isName 41 = .ok (.ireturn, 1) := by decide +kernel
