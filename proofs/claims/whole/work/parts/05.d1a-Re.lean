theorem d_Re_init_0 : decode b_Re_init 0 = .ok (.aload_n 0, 1) := by decide +kernel
theorem d_Re_init_1 : decode b_Re_init 1 = .ok (.invokespecial 3, 3) := by decide +kernel
theorem d_Re_init_4 : decode b_Re_init 4 = .ok (.aload_n 0, 1) := by decide +kernel
theorem d_Re_init_5 : decode b_Re_init 5 = .ok (.bipush 6, 2) := by decide +kernel
theorem d_Re_init_7 : decode b_Re_init 7 = .ok (.newarray .double, 2) := by decide +kernel
theorem d_Re_init_9 : decode b_Re_init 9 = .ok (.putfield 9, 3) := by decide +kernel
theorem d_Re_init_12 : decode b_Re_init 12 = .ok (.aload_n 0, 1) := by decide +kernel
theorem d_Re_init_13 : decode b_Re_init 13 = .ok (.iconst 0, 1) := by decide +kernel
theorem d_Re_init_14 : decode b_Re_init 14 = .ok (.putfield 15, 3) := by decide +kernel
theorem d_Re_init_17 : decode b_Re_init 17 = .ok (.aload_n 0, 1) := by decide +kernel
theorem d_Re_init_18 : decode b_Re_init 18 = .ok (.iconst 0, 1) := by decide +kernel
theorem d_Re_init_19 : decode b_Re_init 19 = .ok (.putfield 19, 3) := by decide +kernel
theorem d_Re_init_22 : decode b_Re_init 22 = .ok (.aload_n 0, 1) := by decide +kernel
theorem d_Re_init_23 : decode b_Re_init 23 = .ok (.iconst 0, 1) := by decide +kernel
theorem d_Re_init_24 : decode b_Re_init 24 = .ok (.putfield 22, 3) := by decide +kernel
theorem d_Re_init_27 : decode b_Re_init 27 = .ok (.return_, 1) := by decide +kernel
theorem d_Re_put_0 : decode b_Re_put 0 = .ok (.aload_n 0, 1) := by decide +kernel
theorem d_Re_put_1 : decode b_Re_put 1 = .ok (.getfield 19, 3) := by decide +kernel
theorem d_Re_put_4 : decode b_Re_put 4 = .ok (.bipush 6, 2) := by decide +kernel
theorem d_Re_put_6 : decode b_Re_put 6 = .ok (.if_icmp .lt 18, 3) := by decide +kernel
theorem d_Re_put_9 : decode b_Re_put 9 = .ok (.aload_n 0, 1) := by decide +kernel
theorem d_Re_put_10 : decode b_Re_put 10 = .ok (.invokevirtual 25, 3) := by decide +kernel
theorem d_Re_put_13 : decode b_Re_put 13 = .ok (.pop2, 1) := by decide +kernel
theorem d_Re_put_14 : decode b_Re_put 14 = .ok (.aload_n 0, 1) := by decide +kernel
theorem d_Re_put_15 : decode b_Re_put 15 = .ok (.dup, 1) := by decide +kernel
theorem d_Re_put_16 : decode b_Re_put 16 = .ok (.getfield 22, 3) := by decide +kernel
theorem d_Re_put_19 : decode b_Re_put 19 = .ok (.iconst 1, 1) := by decide +kernel
theorem d_Re_put_20 : decode b_Re_put 20 = .ok (.iadd, 1) := by decide +kernel
theorem d_Re_put_21 : decode b_Re_put 21 = .ok (.putfield 22, 3) := by decide +kernel
theorem d_Re_put_24 : decode b_Re_put 24 = .ok (.aload_n 0, 1) := by decide +kernel
theorem d_Re_put_25 : decode b_Re_put 25 = .ok (.getfield 9, 3) := by decide +kernel
theorem d_Re_put_28 : decode b_Re_put 28 = .ok (.aload_n 0, 1) := by decide +kernel
theorem d_Re_put_29 : decode b_Re_put 29 = .ok (.getfield 15, 3) := by decide +kernel
theorem d_Re_put_32 : decode b_Re_put 32 = .ok (.aload_n 0, 1) := by decide +kernel
theorem d_Re_put_33 : decode b_Re_put 33 = .ok (.getfield 19, 3) := by decide +kernel
theorem d_Re_put_36 : decode b_Re_put 36 = .ok (.iadd, 1) := by decide +kernel
theorem d_Re_put_37 : decode b_Re_put 37 = .ok (.bipush 6, 2) := by decide +kernel
theorem d_Re_put_39 : decode b_Re_put 39 = .ok (.irem, 1) := by decide +kernel
theorem d_Re_put_40 : decode b_Re_put 40 = .ok (.dload_n 1, 1) := by decide +kernel
theorem d_Re_put_41 : decode b_Re_put 41 = .ok (.dastore, 1) := by decide +kernel
theorem d_Re_put_42 : decode b_Re_put 42 = .ok (.aload_n 0, 1) := by decide +kernel
theorem d_Re_put_43 : decode b_Re_put 43 = .ok (.dup, 1) := by decide +kernel
theorem d_Re_put_44 : decode b_Re_put 44 = .ok (.getfield 19, 3) := by decide +kernel
theorem d_Re_put_47 : decode b_Re_put 47 = .ok (.iconst 1, 1) := by decide +kernel
theorem d_Re_put_48 : decode b_Re_put 48 = .ok (.iadd, 1) := by decide +kernel
theorem d_Re_put_49 : decode b_Re_put 49 = .ok (.putfield 19, 3) := by decide +kernel
theorem d_Re_put_52 : decode b_Re_put 52 = .ok (.return_, 1) := by decide +kernel
theorem d_Re_take_0 : decode b_Re_take 0 = .ok (.aload_n 0, 1) := by decide +kernel
theorem d_Re_take_1 : decode b_Re_take 1 = .ok (.getfield 9, 3) := by decide +kernel
theorem d_Re_take_4 : decode b_Re_take 4 = .ok (.aload_n 0, 1) := by decide +kernel
theorem d_Re_take_5 : decode b_Re_take 5 = .ok (.getfield 15, 3) := by decide +kernel
theorem d_Re_take_8 : decode b_Re_take 8 = .ok (.daload, 1) := by decide +kernel
theorem d_Re_take_9 : decode b_Re_take 9 = .ok (.dstore_n 1, 1) := by decide +kernel
theorem d_Re_take_10 : decode b_Re_take 10 = .ok (.aload_n 0, 1) := by decide +kernel
theorem d_Re_take_11 : decode b_Re_take 11 = .ok (.aload_n 0, 1) := by decide +kernel
theorem d_Re_take_12 : decode b_Re_take 12 = .ok (.getfield 15, 3) := by decide +kernel
theorem d_Re_take_15 : decode b_Re_take 15 = .ok (.iconst 1, 1) := by decide +kernel
theorem d_Re_take_16 : decode b_Re_take 16 = .ok (.iadd, 1) := by decide +kernel
theorem d_Re_take_17 : decode b_Re_take 17 = .ok (.bipush 6, 2) := by decide +kernel
theorem d_Re_take_19 : decode b_Re_take 19 = .ok (.irem, 1) := by decide +kernel
theorem d_Re_take_20 : decode b_Re_take 20 = .ok (.putfield 15, 3) := by decide +kernel
theorem d_Re_take_23 : decode b_Re_take 23 = .ok (.aload_n 0, 1) := by decide +kernel
theorem d_Re_take_24 : decode b_Re_take 24 = .ok (.dup, 1) := by decide +kernel
theorem d_Re_take_25 : decode b_Re_take 25 = .ok (.getfield 19, 3) := by decide +kernel
theorem d_Re_take_28 : decode b_Re_take 28 = .ok (.iconst 1, 1) := by decide +kernel
theorem d_Re_take_29 : decode b_Re_take 29 = .ok (.isub, 1) := by decide +kernel
theorem d_Re_take_30 : decode b_Re_take 30 = .ok (.putfield 19, 3) := by decide +kernel
theorem d_Re_take_33 : decode b_Re_take 33 = .ok (.dload_n 1, 1) := by decide +kernel
theorem d_Re_take_34 : decode b_Re_take 34 = .ok (.dreturn, 1) := by decide +kernel
