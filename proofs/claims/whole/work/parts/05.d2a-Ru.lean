theorem d_Ru_init_0 : decode b_Ru_init 0 = .ok (.aload_n 0, 1) := by decide +kernel
theorem d_Ru_init_1 : decode b_Ru_init 1 = .ok (.invokespecial 3, 3) := by decide +kernel
theorem d_Ru_init_4 : decode b_Ru_init 4 = .ok (.aload_n 0, 1) := by decide +kernel
theorem d_Ru_init_5 : decode b_Ru_init 5 = .ok (.bipush 48, 2) := by decide +kernel
theorem d_Ru_init_7 : decode b_Ru_init 7 = .ok (.newarray .int, 2) := by decide +kernel
theorem d_Ru_init_9 : decode b_Ru_init 9 = .ok (.putfield 9, 3) := by decide +kernel
theorem d_Ru_init_12 : decode b_Ru_init 12 = .ok (.return_, 1) := by decide +kernel
theorem d_Ru_clear_0 : decode b_Ru_clear 0 = .ok (.aload_n 0, 1) := by decide +kernel
theorem d_Ru_clear_1 : decode b_Ru_clear 1 = .ok (.iconst 0, 1) := by decide +kernel
theorem d_Ru_clear_2 : decode b_Ru_clear 2 = .ok (.putfield 15, 3) := by decide +kernel
theorem d_Ru_clear_5 : decode b_Ru_clear 5 = .ok (.aload_n 0, 1) := by decide +kernel
theorem d_Ru_clear_6 : decode b_Ru_clear 6 = .ok (.iconst 0, 1) := by decide +kernel
theorem d_Ru_clear_7 : decode b_Ru_clear 7 = .ok (.putfield 19, 3) := by decide +kernel
theorem d_Ru_clear_10 : decode b_Ru_clear 10 = .ok (.aload_n 0, 1) := by decide +kernel
theorem d_Ru_clear_11 : decode b_Ru_clear 11 = .ok (.iconst 0, 1) := by decide +kernel
theorem d_Ru_clear_12 : decode b_Ru_clear 12 = .ok (.putfield 22, 3) := by decide +kernel
theorem d_Ru_clear_15 : decode b_Ru_clear 15 = .ok (.aload_n 0, 1) := by decide +kernel
theorem d_Ru_clear_16 : decode b_Ru_clear 16 = .ok (.iconst 0, 1) := by decide +kernel
theorem d_Ru_clear_17 : decode b_Ru_clear 17 = .ok (.putfield 25, 3) := by decide +kernel
theorem d_Ru_clear_20 : decode b_Ru_clear 20 = .ok (.aload_n 0, 1) := by decide +kernel
theorem d_Ru_clear_21 : decode b_Ru_clear 21 = .ok (.iconst 0, 1) := by decide +kernel
theorem d_Ru_clear_22 : decode b_Ru_clear 22 = .ok (.putfield 29, 3) := by decide +kernel
theorem d_Ru_clear_25 : decode b_Ru_clear 25 = .ok (.aload_n 0, 1) := by decide +kernel
theorem d_Ru_clear_26 : decode b_Ru_clear 26 = .ok (.iconst 0, 1) := by decide +kernel
theorem d_Ru_clear_27 : decode b_Ru_clear 27 = .ok (.putfield 32, 3) := by decide +kernel
theorem d_Ru_clear_30 : decode b_Ru_clear 30 = .ok (.aload_n 0, 1) := by decide +kernel
theorem d_Ru_clear_31 : decode b_Ru_clear 31 = .ok (.iconst 0, 1) := by decide +kernel
theorem d_Ru_clear_32 : decode b_Ru_clear 32 = .ok (.putfield 35, 3) := by decide +kernel
theorem d_Ru_clear_35 : decode b_Ru_clear 35 = .ok (.aload_n 0, 1) := by decide +kernel
theorem d_Ru_clear_36 : decode b_Ru_clear 36 = .ok (.iconst 0, 1) := by decide +kernel
theorem d_Ru_clear_37 : decode b_Ru_clear 37 = .ok (.putfield 38, 3) := by decide +kernel
theorem d_Ru_clear_40 : decode b_Ru_clear 40 = .ok (.aload_n 0, 1) := by decide +kernel
theorem d_Ru_clear_41 : decode b_Ru_clear 41 = .ok (.iconst 0, 1) := by decide +kernel
theorem d_Ru_clear_42 : decode b_Ru_clear 42 = .ok (.putfield 41, 3) := by decide +kernel
theorem d_Ru_clear_45 : decode b_Ru_clear 45 = .ok (.return_, 1) := by decide +kernel
theorem d_Ru_add_0 : decode b_Ru_add 0 = .ok (.aload_n 0, 1) := by decide +kernel
theorem d_Ru_add_1 : decode b_Ru_add 1 = .ok (.getfield 15, 3) := by decide +kernel
theorem d_Ru_add_4 : decode b_Ru_add 4 = .ok (.aload_n 0, 1) := by decide +kernel
theorem d_Ru_add_5 : decode b_Ru_add 5 = .ok (.getfield 9, 3) := by decide +kernel
theorem d_Ru_add_8 : decode b_Ru_add 8 = .ok (.arraylength, 1) := by decide +kernel
theorem d_Ru_add_9 : decode b_Ru_add 9 = .ok (.if_icmp .ge 23, 3) := by decide +kernel
theorem d_Ru_add_12 : decode b_Ru_add 12 = .ok (.aload_n 0, 1) := by decide +kernel
theorem d_Ru_add_13 : decode b_Ru_add 13 = .ok (.getfield 9, 3) := by decide +kernel
theorem d_Ru_add_16 : decode b_Ru_add 16 = .ok (.aload_n 0, 1) := by decide +kernel
theorem d_Ru_add_17 : decode b_Ru_add 17 = .ok (.getfield 15, 3) := by decide +kernel
theorem d_Ru_add_20 : decode b_Ru_add 20 = .ok (.iload_n 1, 1) := by decide +kernel
theorem d_Ru_add_21 : decode b_Ru_add 21 = .ok (.iastore, 1) := by decide +kernel
theorem d_Ru_add_22 : decode b_Ru_add 22 = .ok (.aload_n 0, 1) := by decide +kernel
theorem d_Ru_add_23 : decode b_Ru_add 23 = .ok (.dup, 1) := by decide +kernel
theorem d_Ru_add_24 : decode b_Ru_add 24 = .ok (.getfield 15, 3) := by decide +kernel
theorem d_Ru_add_27 : decode b_Ru_add 27 = .ok (.iconst 1, 1) := by decide +kernel
theorem d_Ru_add_28 : decode b_Ru_add 28 = .ok (.iadd, 1) := by decide +kernel
theorem d_Ru_add_29 : decode b_Ru_add 29 = .ok (.putfield 15, 3) := by decide +kernel
theorem d_Ru_add_32 : decode b_Ru_add 32 = .ok (.return_, 1) := by decide +kernel
theorem d_Ru_isDoneAt_0 : decode b_Ru_isDoneAt 0 = .ok (.aload_n 0, 1) := by decide +kernel
theorem d_Ru_isDoneAt_1 : decode b_Ru_isDoneAt 1 = .ok (.getfield 35, 3) := by decide +kernel
theorem d_Ru_isDoneAt_4 : decode b_Ru_isDoneAt 4 = .ok (.ifCond .eq 23, 3) := by decide +kernel
theorem d_Ru_isDoneAt_7 : decode b_Ru_isDoneAt 7 = .ok (.aload_n 0, 1) := by decide +kernel
theorem d_Ru_isDoneAt_8 : decode b_Ru_isDoneAt 8 = .ok (.getfield 22, 3) := by decide +kernel
theorem d_Ru_isDoneAt_11 : decode b_Ru_isDoneAt 11 = .ok (.iload_n 1, 1) := by decide +kernel
theorem d_Ru_isDoneAt_12 : decode b_Ru_isDoneAt 12 = .ok (.if_icmp .ne 15, 3) := by decide +kernel
theorem d_Ru_isDoneAt_15 : decode b_Ru_isDoneAt 15 = .ok (.aload_n 0, 1) := by decide +kernel
theorem d_Ru_isDoneAt_16 : decode b_Ru_isDoneAt 16 = .ok (.getfield 25, 3) := by decide +kernel
theorem d_Ru_isDoneAt_19 : decode b_Ru_isDoneAt 19 = .ok (.iload_n 2, 1) := by decide +kernel
theorem d_Ru_isDoneAt_20 : decode b_Ru_isDoneAt 20 = .ok (.if_icmp .ne 7, 3) := by decide +kernel
theorem d_Ru_isDoneAt_23 : decode b_Ru_isDoneAt 23 = .ok (.iconst 1, 1) := by decide +kernel
theorem d_Ru_isDoneAt_24 : decode b_Ru_isDoneAt 24 = .ok (.goto 4, 3) := by decide +kernel
theorem d_Ru_isDoneAt_27 : decode b_Ru_isDoneAt 27 = .ok (.iconst 0, 1) := by decide +kernel
theorem d_Ru_isDoneAt_28 : decode b_Ru_isDoneAt 28 = .ok (.ireturn, 1) := by decide +kernel
