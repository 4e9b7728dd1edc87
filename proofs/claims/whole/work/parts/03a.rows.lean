theorem dX0_init_0 : decode cX0_init 0 = .ok (.aload_n 0, 1) := by decide +kernel
theorem dX0_init_1 : decode cX0_init 1 = .ok (.invokespecial 1, 3) := by decide +kernel
theorem dX0_init_4 : decode cX0_init 4 = .ok (.aload_n 0, 1) := by decide +kernel
theorem dX0_init_5 : decode cX0_init 5 = .ok (.bipush 12, 2) := by decide +kernel
theorem dX0_init_7 : decode cX0_init 7 = .ok (.newarray .int, 2) := by decide +kernel
theorem dX0_init_9 : decode cX0_init 9 = .ok (.putfield 7, 3) := by decide +kernel
theorem dX0_init_12 : decode cX0_init 12 = .ok (.aload_n 0, 1) := by decide +kernel
theorem dX0_init_13 : decode cX0_init 13 = .ok (.aload_n 1, 1) := by decide +kernel
theorem dX0_init_14 : decode cX0_init 14 = .ok (.putfield 13, 3) := by decide +kernel
theorem dX0_init_17 : decode cX0_init 17 = .ok (.return_, 1) := by decide +kernel
theorem dX0_ofTeller_0 : decode cX0_ofTeller 0 = .ok (.aload_n 0, 1) := by decide +kernel
theorem dX0_ofTeller_1 : decode cX0_ofTeller 1 = .ok (.aload_n 1, 1) := by decide +kernel
theorem dX0_ofTeller_2 : decode cX0_ofTeller 2 = .ok (.invokevirtual 17, 3) := by decide +kernel
theorem dX0_ofTeller_5 : decode cX0_ofTeller 5 = .ok (.aload_n 0, 1) := by decide +kernel
theorem dX0_ofTeller_6 : decode cX0_ofTeller 6 = .ok (.aload_n 1, 1) := by decide +kernel
theorem dX0_ofTeller_7 : decode cX0_ofTeller 7 = .ok (.iload 4, 2) := by decide +kernel
theorem dX0_ofTeller_9 : decode cX0_ofTeller 9 = .ok (.invokevirtual 21, 3) := by decide +kernel
theorem dX0_ofTeller_12 : decode cX0_ofTeller 12 = .ok (.aload_n 2, 1) := by decide +kernel
theorem dX0_ofTeller_13 : decode cX0_ofTeller 13 = .ok (.iload_n 3, 1) := by decide +kernel
theorem dX0_ofTeller_14 : decode cX0_ofTeller 14 = .ok (.aload_n 0, 1) := by decide +kernel
theorem dX0_ofTeller_15 : decode cX0_ofTeller 15 = .ok (.getfield 7, 3) := by decide +kernel
theorem dX0_ofTeller_18 : decode cX0_ofTeller 18 = .ok (.invokevirtual 25, 3) := by decide +kernel
theorem dX0_ofTeller_21 : decode cX0_ofTeller 21 = .ok (.ireturn, 1) := by decide +kernel
theorem dX0_ofListener_0 : decode cX0_ofListener 0 = .ok (.aload_n 0, 1) := by decide +kernel
theorem dX0_ofListener_1 : decode cX0_ofListener 1 = .ok (.aload_n 1, 1) := by decide +kernel
theorem dX0_ofListener_2 : decode cX0_ofListener 2 = .ok (.invokevirtual 17, 3) := by decide +kernel
theorem dX0_ofListener_5 : decode cX0_ofListener 5 = .ok (.aload_n 0, 1) := by decide +kernel
theorem dX0_ofListener_6 : decode cX0_ofListener 6 = .ok (.aload_n 1, 1) := by decide +kernel
theorem dX0_ofListener_7 : decode cX0_ofListener 7 = .ok (.iload 4, 2) := by decide +kernel
theorem dX0_ofListener_9 : decode cX0_ofListener 9 = .ok (.invokevirtual 21, 3) := by decide +kernel
theorem dX0_ofListener_12 : decode cX0_ofListener 12 = .ok (.aload_n 0, 1) := by decide +kernel
theorem dX0_ofListener_13 : decode cX0_ofListener 13 = .ok (.getfield 7, 3) := by decide +kernel
theorem dX0_ofListener_16 : decode cX0_ofListener 16 = .ok (.iconst 4, 1) := by decide +kernel
theorem dX0_ofListener_17 : decode cX0_ofListener 17 = .ok (.iload 5, 2) := by decide +kernel
theorem dX0_ofListener_19 : decode cX0_ofListener 19 = .ok (.iastore, 1) := by decide +kernel
theorem dX0_ofListener_20 : decode cX0_ofListener 20 = .ok (.aload_n 0, 1) := by decide +kernel
theorem dX0_ofListener_21 : decode cX0_ofListener 21 = .ok (.getfield 7, 3) := by decide +kernel
theorem dX0_ofListener_24 : decode cX0_ofListener 24 = .ok (.iconst 5, 1) := by decide +kernel
theorem dX0_ofListener_25 : decode cX0_ofListener 25 = .ok (.aload_n 1, 1) := by decide +kernel
theorem dX0_ofListener_26 : decode cX0_ofListener 26 = .ok (.getfield 31, 3) := by decide +kernel
theorem dX0_ofListener_29 : decode cX0_ofListener 29 = .ok (.iload 5, 2) := by decide +kernel
theorem dX0_ofListener_31 : decode cX0_ofListener 31 = .ok (.iaload, 1) := by decide +kernel
theorem dX0_ofListener_32 : decode cX0_ofListener 32 = .ok (.iastore, 1) := by decide +kernel
theorem dX0_ofListener_33 : decode cX0_ofListener 33 = .ok (.aload_n 0, 1) := by decide +kernel
theorem dX0_ofListener_34 : decode cX0_ofListener 34 = .ok (.getfield 7, 3) := by decide +kernel
theorem dX0_ofListener_37 : decode cX0_ofListener 37 = .ok (.bipush 6, 2) := by decide +kernel
theorem dX0_ofListener_39 : decode cX0_ofListener 39 = .ok (.aload_n 1, 1) := by decide +kernel
theorem dX0_ofListener_40 : decode cX0_ofListener 40 = .ok (.getfield 36, 3) := by decide +kernel
theorem dX0_ofListener_43 : decode cX0_ofListener 43 = .ok (.iload 5, 2) := by decide +kernel
theorem dX0_ofListener_45 : decode cX0_ofListener 45 = .ok (.iaload, 1) := by decide +kernel
theorem dX0_ofListener_46 : decode cX0_ofListener 46 = .ok (.iastore, 1) := by decide +kernel
theorem dX0_ofListener_47 : decode cX0_ofListener 47 = .ok (.aload_n 2, 1) := by decide +kernel
theorem dX0_ofListener_48 : decode cX0_ofListener 48 = .ok (.iload_n 3, 1) := by decide +kernel
theorem dX0_ofListener_49 : decode cX0_ofListener 49 = .ok (.aload_n 0, 1) := by decide +kernel
theorem dX0_ofListener_50 : decode cX0_ofListener 50 = .ok (.getfield 7, 3) := by decide +kernel
theorem dX0_ofListener_53 : decode cX0_ofListener 53 = .ok (.invokevirtual 25, 3) := by decide +kernel
theorem dX0_ofListener_56 : decode cX0_ofListener 56 = .ok (.ireturn, 1) := by decide +kernel
theorem dX0_ofEnd_0 : decode cX0_ofEnd 0 = .ok (.aload_n 0, 1) := by decide +kernel
theorem dX0_ofEnd_1 : decode cX0_ofEnd 1 = .ok (.aload_n 1, 1) := by decide +kernel
theorem dX0_ofEnd_2 : decode cX0_ofEnd 2 = .ok (.invokevirtual 17, 3) := by decide +kernel
theorem dX0_ofEnd_5 : decode cX0_ofEnd 5 = .ok (.aload_n 0, 1) := by decide +kernel
theorem dX0_ofEnd_6 : decode cX0_ofEnd 6 = .ok (.getfield 7, 3) := by decide +kernel
theorem dX0_ofEnd_9 : decode cX0_ofEnd 9 = .ok (.bipush 7, 2) := by decide +kernel
theorem dX0_ofEnd_11 : decode cX0_ofEnd 11 = .ok (.iload 4, 2) := by decide +kernel
theorem dX0_ofEnd_13 : decode cX0_ofEnd 13 = .ok (.iastore, 1) := by decide +kernel
theorem dX0_ofEnd_14 : decode cX0_ofEnd 14 = .ok (.aload_n 0, 1) := by decide +kernel
theorem dX0_ofEnd_15 : decode cX0_ofEnd 15 = .ok (.getfield 7, 3) := by decide +kernel
theorem dX0_ofEnd_18 : decode cX0_ofEnd 18 = .ok (.bipush 8, 2) := by decide +kernel
theorem dX0_ofEnd_20 : decode cX0_ofEnd 20 = .ok (.aload_n 0, 1) := by decide +kernel
theorem dX0_ofEnd_21 : decode cX0_ofEnd 21 = .ok (.getfield 13, 3) := by decide +kernel
theorem dX0_ofEnd_24 : decode cX0_ofEnd 24 = .ok (.getfield 39, 3) := by decide +kernel
theorem dX0_ofEnd_27 : decode cX0_ofEnd 27 = .ok (.iload 4, 2) := by decide +kernel
theorem dX0_ofEnd_29 : decode cX0_ofEnd 29 = .ok (.iaload, 1) := by decide +kernel
theorem dX0_ofEnd_30 : decode cX0_ofEnd 30 = .ok (.iastore, 1) := by decide +kernel
theorem dX0_ofEnd_31 : decode cX0_ofEnd 31 = .ok (.aload_n 0, 1) := by decide +kernel
theorem dX0_ofEnd_32 : decode cX0_ofEnd 32 = .ok (.getfield 7, 3) := by decide +kernel
theorem dX0_ofEnd_35 : decode cX0_ofEnd 35 = .ok (.bipush 9, 2) := by decide +kernel
theorem dX0_ofEnd_37 : decode cX0_ofEnd 37 = .ok (.aload_n 1, 1) := by decide +kernel
theorem dX0_ofEnd_38 : decode cX0_ofEnd 38 = .ok (.getfield 44, 3) := by decide +kernel
theorem dX0_ofEnd_41 : decode cX0_ofEnd 41 = .ok (.iload 4, 2) := by decide +kernel
theorem dX0_ofEnd_43 : decode cX0_ofEnd 43 = .ok (.iaload, 1) := by decide +kernel
theorem dX0_ofEnd_44 : decode cX0_ofEnd 44 = .ok (.iastore, 1) := by decide +kernel
theorem dX0_ofEnd_45 : decode cX0_ofEnd 45 = .ok (.aload_n 0, 1) := by decide +kernel
theorem dX0_ofEnd_46 : decode cX0_ofEnd 46 = .ok (.getfield 7, 3) := by decide +kernel
theorem dX0_ofEnd_49 : decode cX0_ofEnd 49 = .ok (.bipush 10, 2) := by decide +kernel
theorem dX0_ofEnd_51 : decode cX0_ofEnd 51 = .ok (.aload_n 0, 1) := by decide +kernel
theorem dX0_ofEnd_52 : decode cX0_ofEnd 52 = .ok (.getfield 13, 3) := by decide +kernel
theorem dX0_ofEnd_55 : decode cX0_ofEnd 55 = .ok (.getfield 47, 3) := by decide +kernel
theorem dX0_ofEnd_58 : decode cX0_ofEnd 58 = .ok (.iload 4, 2) := by decide +kernel
theorem dX0_ofEnd_60 : decode cX0_ofEnd 60 = .ok (.iaload, 1) := by decide +kernel
theorem dX0_ofEnd_61 : decode cX0_ofEnd 61 = .ok (.invokestatic 50, 3) := by decide +kernel
theorem dX0_ofEnd_64 : decode cX0_ofEnd 64 = .ok (.iastore, 1) := by decide +kernel
theorem dX0_ofEnd_65 : decode cX0_ofEnd 65 = .ok (.aload_n 2, 1) := by decide +kernel
theorem dX0_ofEnd_66 : decode cX0_ofEnd 66 = .ok (.iload_n 3, 1) := by decide +kernel
theorem dX0_ofEnd_67 : decode cX0_ofEnd 67 = .ok (.aload_n 0, 1) := by decide +kernel
theorem dX0_ofEnd_68 : decode cX0_ofEnd 68 = .ok (.getfield 7, 3) := by decide +kernel
theorem dX0_ofEnd_71 : decode cX0_ofEnd 71 = .ok (.invokevirtual 25, 3) := by decide +kernel
theorem dX0_ofEnd_74 : decode cX0_ofEnd 74 = .ok (.ireturn, 1) := by decide +kernel
theorem dX0_begin_0 : decode cX0_begin 0 = .ok (.aload_n 0, 1) := by decide +kernel
theorem dX0_begin_1 : decode cX0_begin 1 = .ok (.getfield 7, 3) := by decide +kernel
theorem dX0_begin_4 : decode cX0_begin 4 = .ok (.iconst 0, 1) := by decide +kernel
theorem dX0_begin_5 : decode cX0_begin 5 = .ok (.invokestatic 56, 3) := by decide +kernel
theorem dX0_begin_8 : decode cX0_begin 8 = .ok (.aload_n 0, 1) := by decide +kernel
theorem dX0_begin_9 : decode cX0_begin 9 = .ok (.getfield 7, 3) := by decide +kernel
theorem dX0_begin_12 : decode cX0_begin 12 = .ok (.bipush 11, 2) := by decide +kernel
theorem dX0_begin_14 : decode cX0_begin 14 = .ok (.aload_n 1, 1) := by decide +kernel
theorem dX0_begin_15 : decode cX0_begin 15 = .ok (.getfield 62, 3) := by decide +kernel
theorem dX0_begin_18 : decode cX0_begin 18 = .ok (.iastore, 1) := by decide +kernel
theorem dX0_begin_19 : decode cX0_begin 19 = .ok (.return_, 1) := by decide +kernel
theorem dX0_putTeller_0 : decode cX0_putTeller 0 = .ok (.aload_n 0, 1) := by decide +kernel
theorem dX0_putTeller_1 : decode cX0_putTeller 1 = .ok (.getfield 7, 3) := by decide +kernel
theorem dX0_putTeller_4 : decode cX0_putTeller 4 = .ok (.iconst 0, 1) := by decide +kernel
theorem dX0_putTeller_5 : decode cX0_putTeller 5 = .ok (.iload_n 2, 1) := by decide +kernel
theorem dX0_putTeller_6 : decode cX0_putTeller 6 = .ok (.iastore, 1) := by decide +kernel
theorem dX0_putTeller_7 : decode cX0_putTeller 7 = .ok (.aload_n 0, 1) := by decide +kernel
theorem dX0_putTeller_8 : decode cX0_putTeller 8 = .ok (.getfield 7, 3) := by decide +kernel
theorem dX0_putTeller_11 : decode cX0_putTeller 11 = .ok (.iconst 1, 1) := by decide +kernel
theorem dX0_putTeller_12 : decode cX0_putTeller 12 = .ok (.aload_n 1, 1) := by decide +kernel
theorem dX0_putTeller_13 : decode cX0_putTeller 13 = .ok (.getfield 66, 3) := by decide +kernel
theorem dX0_putTeller_16 : decode cX0_putTeller 16 = .ok (.iload_n 2, 1) := by decide +kernel
theorem dX0_putTeller_17 : decode cX0_putTeller 17 = .ok (.iaload, 1) := by decide +kernel
theorem dX0_putTeller_18 : decode cX0_putTeller 18 = .ok (.iastore, 1) := by decide +kernel
theorem dX0_putTeller_19 : decode cX0_putTeller 19 = .ok (.aload_n 0, 1) := by decide +kernel
theorem dX0_putTeller_20 : decode cX0_putTeller 20 = .ok (.getfield 7, 3) := by decide +kernel
theorem dX0_putTeller_23 : decode cX0_putTeller 23 = .ok (.iconst 2, 1) := by decide +kernel
theorem dX0_putTeller_24 : decode cX0_putTeller 24 = .ok (.aload_n 1, 1) := by decide +kernel
theorem dX0_putTeller_25 : decode cX0_putTeller 25 = .ok (.getfield 69, 3) := by decide +kernel
theorem dX0_putTeller_28 : decode cX0_putTeller 28 = .ok (.iload_n 2, 1) := by decide +kernel
theorem dX0_putTeller_29 : decode cX0_putTeller 29 = .ok (.iaload, 1) := by decide +kernel
theorem dX0_putTeller_30 : decode cX0_putTeller 30 = .ok (.iastore, 1) := by decide +kernel
theorem dX0_putTeller_31 : decode cX0_putTeller 31 = .ok (.aload_n 0, 1) := by decide +kernel
theorem dX0_putTeller_32 : decode cX0_putTeller 32 = .ok (.getfield 7, 3) := by decide +kernel
theorem dX0_putTeller_35 : decode cX0_putTeller 35 = .ok (.iconst 3, 1) := by decide +kernel
theorem dX0_putTeller_36 : decode cX0_putTeller 36 = .ok (.aload_n 1, 1) := by decide +kernel
theorem dX0_putTeller_37 : decode cX0_putTeller 37 = .ok (.getfield 72, 3) := by decide +kernel
theorem dX0_putTeller_40 : decode cX0_putTeller 40 = .ok (.iload_n 2, 1) := by decide +kernel
theorem dX0_putTeller_41 : decode cX0_putTeller 41 = .ok (.iaload, 1) := by decide +kernel
theorem dX0_putTeller_42 : decode cX0_putTeller 42 = .ok (.invokestatic 50, 3) := by decide +kernel
theorem dX0_putTeller_45 : decode cX0_putTeller 45 = .ok (.iastore, 1) := by decide +kernel
theorem dX0_putTeller_46 : decode cX0_putTeller 46 = .ok (.return_, 1) := by decide +kernel
theorem dX1_init_0 : decode cX1_init 0 = .ok (.aload_n 0, 1) := by decide +kernel
theorem dX1_init_1 : decode cX1_init 1 = .ok (.invokespecial 3, 3) := by decide +kernel
theorem dX1_init_4 : decode cX1_init 4 = .ok (.aload_n 0, 1) := by decide +kernel
theorem dX1_init_5 : decode cX1_init 5 = .ok (.iconst 0, 1) := by decide +kernel
theorem dX1_init_6 : decode cX1_init 6 = .ok (.putfield 9, 3) := by decide +kernel
theorem dX1_init_9 : decode cX1_init 9 = .ok (.aload_n 0, 1) := by decide +kernel
theorem dX1_init_10 : decode cX1_init 10 = .ok (.iconst 0, 1) := by decide +kernel
theorem dX1_init_11 : decode cX1_init 11 = .ok (.putfield 15, 3) := by decide +kernel
theorem dX1_init_14 : decode cX1_init 14 = .ok (.aload_n 0, 1) := by decide +kernel
theorem dX1_init_15 : decode cX1_init 15 = .ok (.iconst 0, 1) := by decide +kernel
theorem dX1_init_16 : decode cX1_init 16 = .ok (.putfield 18, 3) := by decide +kernel
theorem dX1_init_19 : decode cX1_init 19 = .ok (.aload_n 0, 1) := by decide +kernel
theorem dX1_init_20 : decode cX1_init 20 = .ok (.iconst 0, 1) := by decide +kernel
theorem dX1_init_21 : decode cX1_init 21 = .ok (.putfield 21, 3) := by decide +kernel
theorem dX1_init_24 : decode cX1_init 24 = .ok (.aload_n 0, 1) := by decide +kernel
theorem dX1_init_25 : decode cX1_init 25 = .ok (.iconst 0, 1) := by decide +kernel
theorem dX1_init_26 : decode cX1_init 26 = .ok (.putfield 24, 3) := by decide +kernel
theorem dX1_init_29 : decode cX1_init 29 = .ok (.aload_n 0, 1) := by decide +kernel
theorem dX1_init_30 : decode cX1_init 30 = .ok (.iconst 0, 1) := by decide +kernel
theorem dX1_init_31 : decode cX1_init 31 = .ok (.putfield 27, 3) := by decide +kernel
theorem dX1_init_34 : decode cX1_init 34 = .ok (.aload_n 0, 1) := by decide +kernel
theorem dX1_init_35 : decode cX1_init 35 = .ok (.iconst 0, 1) := by decide +kernel
theorem dX1_init_36 : decode cX1_init 36 = .ok (.putfield 30, 3) := by decide +kernel
theorem dX1_init_39 : decode cX1_init 39 = .ok (.aload_n 0, 1) := by decide +kernel
theorem dX1_init_40 : decode cX1_init 40 = .ok (.iconst 0, 1) := by decide +kernel
theorem dX1_init_41 : decode cX1_init 41 = .ok (.putfield 33, 3) := by decide +kernel
theorem dX1_init_44 : decode cX1_init 44 = .ok (.aload_n 0, 1) := by decide +kernel
theorem dX1_init_45 : decode cX1_init 45 = .ok (.bipush (-2), 2) := by decide +kernel
theorem dX1_init_47 : decode cX1_init 47 = .ok (.putfield 36, 3) := by decide +kernel
theorem dX1_init_50 : decode cX1_init 50 = .ok (.aload_n 0, 1) := by decide +kernel
theorem dX1_init_51 : decode cX1_init 51 = .ok (.bipush (-2), 2) := by decide +kernel
theorem dX1_init_53 : decode cX1_init 53 = .ok (.putfield 39, 3) := by decide +kernel
theorem dX1_init_56 : decode cX1_init 56 = .ok (.aload_n 0, 1) := by decide +kernel
theorem dX1_init_57 : decode cX1_init 57 = .ok (.aload_n 1, 1) := by decide +kernel
theorem dX1_init_58 : decode cX1_init 58 = .ok (.putfield 42, 3) := by decide +kernel
theorem dX1_init_61 : decode cX1_init 61 = .ok (.aload_n 0, 1) := by decide +kernel
theorem dX1_init_62 : decode cX1_init 62 = .ok (.aload_n 2, 1) := by decide +kernel
theorem dX1_init_63 : decode cX1_init 63 = .ok (.putfield 46, 3) := by decide +kernel
theorem dX1_init_66 : decode cX1_init 66 = .ok (.aload_n 0, 1) := by decide +kernel
theorem dX1_init_67 : decode cX1_init 67 = .ok (.aload_n 3, 1) := by decide +kernel
theorem dX1_init_68 : decode cX1_init 68 = .ok (.putfield 50, 3) := by decide +kernel
theorem dX1_init_71 : decode cX1_init 71 = .ok (.aload_n 0, 1) := by decide +kernel
theorem dX1_init_72 : decode cX1_init 72 = .ok (.aload 4, 2) := by decide +kernel
theorem dX1_init_74 : decode cX1_init 74 = .ok (.putfield 54, 3) := by decide +kernel
theorem dX1_init_77 : decode cX1_init 77 = .ok (.aload_n 0, 1) := by decide +kernel
theorem dX1_init_78 : decode cX1_init 78 = .ok (.aload 5, 2) := by decide +kernel
theorem dX1_init_80 : decode cX1_init 80 = .ok (.putfield 58, 3) := by decide +kernel
theorem dX1_init_83 : decode cX1_init 83 = .ok (.return_, 1) := by decide +kernel
theorem dX1_run_0 : decode cX1_run 0 = .ok (.aload_n 0, 1) := by decide +kernel
theorem dX1_run_1 : decode cX1_run 1 = .ok (.aload_n 1, 1) := by decide +kernel
theorem dX1_run_2 : decode cX1_run 2 = .ok (.aload_n 2, 1) := by decide +kernel
theorem dX1_run_3 : decode cX1_run 3 = .ok (.invokevirtual 62, 3) := by decide +kernel
theorem dX1_run_6 : decode cX1_run 6 = .ok (.iconst 1, 1) := by decide +kernel
theorem dX1_run_7 : decode cX1_run 7 = .ok (.istore 4, 2) := by decide +kernel
theorem dX1_run_9 : decode cX1_run 9 = .ok (.iload 4, 2) := by decide +kernel
theorem dX1_run_11 : decode cX1_run 11 = .ok (.iload_n 3, 1) := by decide +kernel
theorem dX1_run_12 : decode cX1_run 12 = .ok (.if_icmp .gt 77, 3) := by decide +kernel
theorem dX1_run_15 : decode cX1_run 15 = .ok (.aload_n 0, 1) := by decide +kernel
theorem dX1_run_16 : decode cX1_run 16 = .ok (.getfield 54, 3) := by decide +kernel
theorem dX1_run_19 : decode cX1_run 19 = .ok (.getfield 66, 3) := by decide +kernel
theorem dX1_run_22 : decode cX1_run 22 = .ok (.sipush 9999, 3) := by decide +kernel
theorem dX1_run_25 : decode cX1_run 25 = .ok (.if_icmp .ge 64, 3) := by decide +kernel
theorem dX1_run_28 : decode cX1_run 28 = .ok (.aload_n 0, 1) := by decide +kernel
theorem dX1_run_29 : decode cX1_run 29 = .ok (.iload 4, 2) := by decide +kernel
theorem dX1_run_31 : decode cX1_run 31 = .ok (.putfield 9, 3) := by decide +kernel
theorem dX1_run_34 : decode cX1_run 34 = .ok (.iconst 0, 1) := by decide +kernel
theorem dX1_run_35 : decode cX1_run 35 = .ok (.istore 5, 2) := by decide +kernel
theorem dX1_run_37 : decode cX1_run 37 = .ok (.iload 5, 2) := by decide +kernel
theorem dX1_run_39 : decode cX1_run 39 = .ok (.iconst 4, 1) := by decide +kernel
theorem dX1_run_40 : decode cX1_run 40 = .ok (.if_icmp .ge 30, 3) := by decide +kernel
theorem dX1_run_43 : decode cX1_run 43 = .ok (.aload_n 0, 1) := by decide +kernel
theorem dX1_run_44 : decode cX1_run 44 = .ok (.getfield 54, 3) := by decide +kernel
theorem dX1_run_47 : decode cX1_run 47 = .ok (.getfield 71, 3) := by decide +kernel
theorem dX1_run_50 : decode cX1_run 50 = .ok (.iload 5, 2) := by decide +kernel
theorem dX1_run_52 : decode cX1_run 52 = .ok (.invokestatic 74, 3) := by decide +kernel
theorem dX1_run_55 : decode cX1_run 55 = .ok (.ifCond .eq 9, 3) := by decide +kernel
theorem dX1_run_58 : decode cX1_run 58 = .ok (.aload_n 0, 1) := by decide +kernel
theorem dX1_run_59 : decode cX1_run 59 = .ok (.iload 5, 2) := by decide +kernel
theorem dX1_run_61 : decode cX1_run 61 = .ok (.invokevirtual 78, 3) := by decide +kernel
theorem dX1_run_64 : decode cX1_run 64 = .ok (.iinc 5 1, 3) := by decide +kernel
theorem dX1_run_67 : decode cX1_run 67 = .ok (.goto (-30), 3) := by decide +kernel
theorem dX1_run_70 : decode cX1_run 70 = .ok (.aload_n 0, 1) := by decide +kernel
theorem dX1_run_71 : decode cX1_run 71 = .ok (.getfield 54, 3) := by decide +kernel
theorem dX1_run_74 : decode cX1_run 74 = .ok (.dup, 1) := by decide +kernel
theorem dX1_run_75 : decode cX1_run 75 = .ok (.getfield 66, 3) := by decide +kernel
theorem dX1_run_78 : decode cX1_run 78 = .ok (.iconst 1, 1) := by decide +kernel
theorem dX1_run_79 : decode cX1_run 79 = .ok (.iadd, 1) := by decide +kernel
theorem dX1_run_80 : decode cX1_run 80 = .ok (.putfield 66, 3) := by decide +kernel
theorem dX1_run_83 : decode cX1_run 83 = .ok (.iinc 4 1, 3) := by decide +kernel
theorem dX1_run_86 : decode cX1_run 86 = .ok (.goto (-77), 3) := by decide +kernel
theorem dX1_run_89 : decode cX1_run 89 = .ok (.return_, 1) := by decide +kernel
theorem dX1_beginIn_0 : decode cX1_beginIn 0 = .ok (.aload_n 0, 1) := by decide +kernel
theorem dX1_beginIn_1 : decode cX1_beginIn 1 = .ok (.aload_n 1, 1) := by decide +kernel
theorem dX1_beginIn_2 : decode cX1_beginIn 2 = .ok (.putfield 54, 3) := by decide +kernel
theorem dX1_beginIn_5 : decode cX1_beginIn 5 = .ok (.aload_n 0, 1) := by decide +kernel
theorem dX1_beginIn_6 : decode cX1_beginIn 6 = .ok (.aload_n 2, 1) := by decide +kernel
theorem dX1_beginIn_7 : decode cX1_beginIn 7 = .ok (.putfield 58, 3) := by decide +kernel
theorem dX1_beginIn_10 : decode cX1_beginIn 10 = .ok (.aload_n 0, 1) := by decide +kernel
theorem dX1_beginIn_11 : decode cX1_beginIn 11 = .ok (.iconst 0, 1) := by decide +kernel
theorem dX1_beginIn_12 : decode cX1_beginIn 12 = .ok (.putfield 15, 3) := by decide +kernel
theorem dX1_beginIn_15 : decode cX1_beginIn 15 = .ok (.aload_n 0, 1) := by decide +kernel
theorem dX1_beginIn_16 : decode cX1_beginIn 16 = .ok (.iconst 0, 1) := by decide +kernel
theorem dX1_beginIn_17 : decode cX1_beginIn 17 = .ok (.putfield 18, 3) := by decide +kernel
theorem dX1_beginIn_20 : decode cX1_beginIn 20 = .ok (.aload_n 0, 1) := by decide +kernel
theorem dX1_beginIn_21 : decode cX1_beginIn 21 = .ok (.iconst 0, 1) := by decide +kernel
theorem dX1_beginIn_22 : decode cX1_beginIn 22 = .ok (.putfield 21, 3) := by decide +kernel
theorem dX1_beginIn_25 : decode cX1_beginIn 25 = .ok (.aload_n 0, 1) := by decide +kernel
theorem dX1_beginIn_26 : decode cX1_beginIn 26 = .ok (.iconst 0, 1) := by decide +kernel
theorem dX1_beginIn_27 : decode cX1_beginIn 27 = .ok (.putfield 24, 3) := by decide +kernel
theorem dX1_beginIn_30 : decode cX1_beginIn 30 = .ok (.aload_n 0, 1) := by decide +kernel
theorem dX1_beginIn_31 : decode cX1_beginIn 31 = .ok (.iconst 0, 1) := by decide +kernel
theorem dX1_beginIn_32 : decode cX1_beginIn 32 = .ok (.putfield 27, 3) := by decide +kernel
theorem dX1_beginIn_35 : decode cX1_beginIn 35 = .ok (.aload_n 0, 1) := by decide +kernel
theorem dX1_beginIn_36 : decode cX1_beginIn 36 = .ok (.iconst 0, 1) := by decide +kernel
theorem dX1_beginIn_37 : decode cX1_beginIn 37 = .ok (.putfield 30, 3) := by decide +kernel
theorem dX1_beginIn_40 : decode cX1_beginIn 40 = .ok (.aload_n 0, 1) := by decide +kernel
theorem dX1_beginIn_41 : decode cX1_beginIn 41 = .ok (.iconst 0, 1) := by decide +kernel
theorem dX1_beginIn_42 : decode cX1_beginIn 42 = .ok (.putfield 33, 3) := by decide +kernel
theorem dX1_beginIn_45 : decode cX1_beginIn 45 = .ok (.aload_n 0, 1) := by decide +kernel
theorem dX1_beginIn_46 : decode cX1_beginIn 46 = .ok (.bipush (-2), 2) := by decide +kernel
theorem dX1_beginIn_48 : decode cX1_beginIn 48 = .ok (.putfield 36, 3) := by decide +kernel
theorem dX1_beginIn_51 : decode cX1_beginIn 51 = .ok (.aload_n 0, 1) := by decide +kernel
theorem dX1_beginIn_52 : decode cX1_beginIn 52 = .ok (.bipush (-2), 2) := by decide +kernel
theorem dX1_beginIn_54 : decode cX1_beginIn 54 = .ok (.putfield 39, 3) := by decide +kernel
theorem dX1_beginIn_57 : decode cX1_beginIn 57 = .ok (.return_, 1) := by decide +kernel
theorem dX1_result_0 : decode cX1_result 0 = .ok (.iload_n 1, 1) := by decide +kernel
theorem dX1_result_1 : decode cX1_result 1 = .ok (.tableswitch 78 0 6 #[43, 48, 53, 58, 63, 68, 73], 43) := by decide +kernel
theorem dX1_result_44 : decode cX1_result 44 = .ok (.aload_n 0, 1) := by decide +kernel
theorem dX1_result_45 : decode cX1_result 45 = .ok (.getfield 15, 3) := by decide +kernel
theorem dX1_result_48 : decode cX1_result 48 = .ok (.ireturn, 1) := by decide +kernel
theorem dX1_result_49 : decode cX1_result 49 = .ok (.aload_n 0, 1) := by decide +kernel
theorem dX1_result_50 : decode cX1_result 50 = .ok (.getfield 18, 3) := by decide +kernel
theorem dX1_result_53 : decode cX1_result 53 = .ok (.ireturn, 1) := by decide +kernel
theorem dX1_result_54 : decode cX1_result 54 = .ok (.aload_n 0, 1) := by decide +kernel
theorem dX1_result_55 : decode cX1_result 55 = .ok (.getfield 21, 3) := by decide +kernel
theorem dX1_result_58 : decode cX1_result 58 = .ok (.ireturn, 1) := by decide +kernel
theorem dX1_result_59 : decode cX1_result 59 = .ok (.aload_n 0, 1) := by decide +kernel
theorem dX1_result_60 : decode cX1_result 60 = .ok (.getfield 24, 3) := by decide +kernel
theorem dX1_result_63 : decode cX1_result 63 = .ok (.ireturn, 1) := by decide +kernel
theorem dX1_result_64 : decode cX1_result 64 = .ok (.aload_n 0, 1) := by decide +kernel
theorem dX1_result_65 : decode cX1_result 65 = .ok (.getfield 27, 3) := by decide +kernel
theorem dX1_result_68 : decode cX1_result 68 = .ok (.ireturn, 1) := by decide +kernel
theorem dX1_result_69 : decode cX1_result 69 = .ok (.aload_n 0, 1) := by decide +kernel
theorem dX1_result_70 : decode cX1_result 70 = .ok (.getfield 30, 3) := by decide +kernel
theorem dX1_result_73 : decode cX1_result 73 = .ok (.ireturn, 1) := by decide +kernel
theorem dX1_result_74 : decode cX1_result 74 = .ok (.aload_n 0, 1) := by decide +kernel
theorem dX1_result_75 : decode cX1_result 75 = .ok (.getfield 33, 3) := by decide +kernel
theorem dX1_result_78 : decode cX1_result 78 = .ok (.ireturn, 1) := by decide +kernel
theorem dX1_result_79 : decode cX1_result 79 = .ok (.iload_n 1, 1) := by decide +kernel
theorem dX1_result_80 : decode cX1_result 80 = .ok (.bipush 10, 2) := by decide +kernel
theorem dX1_result_82 : decode cX1_result 82 = .ok (.bipush 13, 2) := by decide +kernel
theorem dX1_result_84 : decode cX1_result 84 = .ok (.invokestatic 82, 3) := by decide +kernel
theorem dX1_result_87 : decode cX1_result 87 = .ok (.ifCond .eq 16, 3) := by decide +kernel
theorem dX1_result_90 : decode cX1_result 90 = .ok (.aload_n 0, 1) := by decide +kernel
theorem dX1_result_91 : decode cX1_result 91 = .ok (.getfield 54, 3) := by decide +kernel
theorem dX1_result_94 : decode cX1_result 94 = .ok (.getfield 86, 3) := by decide +kernel
theorem dX1_result_97 : decode cX1_result 97 = .ok (.iload_n 1, 1) := by decide +kernel
theorem dX1_result_98 : decode cX1_result 98 = .ok (.bipush 10, 2) := by decide +kernel
theorem dX1_result_100 : decode cX1_result 100 = .ok (.isub, 1) := by decide +kernel
theorem dX1_result_101 : decode cX1_result 101 = .ok (.iaload, 1) := by decide +kernel
theorem dX1_result_102 : decode cX1_result 102 = .ok (.ireturn, 1) := by decide +kernel
theorem dX1_result_103 : decode cX1_result 103 = .ok (.iload_n 1, 1) := by decide +kernel
theorem dX1_result_104 : decode cX1_result 104 = .ok (.bipush 20, 2) := by decide +kernel
theorem dX1_result_106 : decode cX1_result 106 = .ok (.bipush 23, 2) := by decide +kernel
theorem dX1_result_108 : decode cX1_result 108 = .ok (.invokestatic 82, 3) := by decide +kernel
theorem dX1_result_111 : decode cX1_result 111 = .ok (.ifCond .eq 16, 3) := by decide +kernel
theorem dX1_result_114 : decode cX1_result 114 = .ok (.aload_n 0, 1) := by decide +kernel
theorem dX1_result_115 : decode cX1_result 115 = .ok (.getfield 54, 3) := by decide +kernel
theorem dX1_result_118 : decode cX1_result 118 = .ok (.getfield 90, 3) := by decide +kernel
theorem dX1_result_121 : decode cX1_result 121 = .ok (.iload_n 1, 1) := by decide +kernel
theorem dX1_result_122 : decode cX1_result 122 = .ok (.bipush 20, 2) := by decide +kernel
theorem dX1_result_124 : decode cX1_result 124 = .ok (.isub, 1) := by decide +kernel
theorem dX1_result_125 : decode cX1_result 125 = .ok (.iaload, 1) := by decide +kernel
theorem dX1_result_126 : decode cX1_result 126 = .ok (.ireturn, 1) := by decide +kernel
theorem dX1_result_127 : decode cX1_result 127 = .ok (.iload_n 1, 1) := by decide +kernel
theorem dX1_result_128 : decode cX1_result 128 = .ok (.bipush 30, 2) := by decide +kernel
theorem dX1_result_130 : decode cX1_result 130 = .ok (.bipush 39, 2) := by decide +kernel
theorem dX1_result_132 : decode cX1_result 132 = .ok (.invokestatic 82, 3) := by decide +kernel
theorem dX1_result_135 : decode cX1_result 135 = .ok (.ifCond .eq 18, 3) := by decide +kernel
theorem dX1_result_138 : decode cX1_result 138 = .ok (.aload_n 0, 1) := by decide +kernel
theorem dX1_result_139 : decode cX1_result 139 = .ok (.getfield 54, 3) := by decide +kernel
theorem dX1_result_142 : decode cX1_result 142 = .ok (.getfield 93, 3) := by decide +kernel
theorem dX1_result_145 : decode cX1_result 145 = .ok (.iload_n 1, 1) := by decide +kernel
theorem dX1_result_146 : decode cX1_result 146 = .ok (.bipush 30, 2) := by decide +kernel
theorem dX1_result_148 : decode cX1_result 148 = .ok (.isub, 1) := by decide +kernel
theorem dX1_result_149 : decode cX1_result 149 = .ok (.iaload, 1) := by decide +kernel
theorem dX1_result_150 : decode cX1_result 150 = .ok (.goto 4, 3) := by decide +kernel
theorem dX1_result_153 : decode cX1_result 153 = .ok (.iconst (-1), 1) := by decide +kernel
theorem dX1_result_154 : decode cX1_result 154 = .ok (.ireturn, 1) := by decide +kernel
theorem dX1_visit_0 : decode cX1_visit 0 = .ok (.aload_n 0, 1) := by decide +kernel
theorem dX1_visit_1 : decode cX1_visit 1 = .ok (.iload_n 1, 1) := by decide +kernel
theorem dX1_visit_2 : decode cX1_visit 2 = .ok (.invokevirtual 96, 3) := by decide +kernel
theorem dX1_visit_5 : decode cX1_visit 5 = .ok (.astore_n 2, 1) := by decide +kernel
theorem dX1_visit_6 : decode cX1_visit 6 = .ok (.aload_n 2, 1) := by decide +kernel
theorem dX1_visit_7 : decode cX1_visit 7 = .ok (.ifnonnull 4, 3) := by decide +kernel
theorem dX1_visit_10 : decode cX1_visit 10 = .ok (.return_, 1) := by decide +kernel
theorem dX1_visit_11 : decode cX1_visit 11 = .ok (.aload_n 0, 1) := by decide +kernel
theorem dX1_visit_12 : decode cX1_visit 12 = .ok (.iload_n 1, 1) := by decide +kernel
theorem dX1_visit_13 : decode cX1_visit 13 = .ok (.aload_n 2, 1) := by decide +kernel
theorem dX1_visit_14 : decode cX1_visit 14 = .ok (.invokevirtual 100, 3) := by decide +kernel
theorem dX1_visit_17 : decode cX1_visit 17 = .ok (.aload_n 0, 1) := by decide +kernel
theorem dX1_visit_18 : decode cX1_visit 18 = .ok (.getfield 54, 3) := by decide +kernel
theorem dX1_visit_21 : decode cX1_visit 21 = .ok (.getfield 104, 3) := by decide +kernel
theorem dX1_visit_24 : decode cX1_visit 24 = .ok (.iload_n 1, 1) := by decide +kernel
theorem dX1_visit_25 : decode cX1_visit 25 = .ok (.iaload, 1) := by decide +kernel
theorem dX1_visit_26 : decode cX1_visit 26 = .ok (.aload_n 2, 1) := by decide +kernel
theorem dX1_visit_27 : decode cX1_visit 27 = .ok (.getfield 107, 3) := by decide +kernel
theorem dX1_visit_30 : decode cX1_visit 30 = .ok (.if_icmp .lt 7, 3) := by decide +kernel
theorem dX1_visit_33 : decode cX1_visit 33 = .ok (.iconst 1, 1) := by decide +kernel
theorem dX1_visit_34 : decode cX1_visit 34 = .ok (.goto 4, 3) := by decide +kernel
theorem dX1_visit_37 : decode cX1_visit 37 = .ok (.iconst 0, 1) := by decide +kernel
theorem dX1_visit_38 : decode cX1_visit 38 = .ok (.istore_n 3, 1) := by decide +kernel
theorem dX1_visit_39 : decode cX1_visit 39 = .ok (.iload_n 3, 1) := by decide +kernel
theorem dX1_visit_40 : decode cX1_visit 40 = .ok (.ifCond .eq 50, 3) := by decide +kernel
theorem dX1_visit_43 : decode cX1_visit 43 = .ok (.aload_n 0, 1) := by decide +kernel
theorem dX1_visit_44 : decode cX1_visit 44 = .ok (.getfield 54, 3) := by decide +kernel
theorem dX1_visit_47 : decode cX1_visit 47 = .ok (.getfield 90, 3) := by decide +kernel
theorem dX1_visit_50 : decode cX1_visit 50 = .ok (.iload_n 1, 1) := by decide +kernel
theorem dX1_visit_51 : decode cX1_visit 51 = .ok (.iaload, 1) := by decide +kernel
theorem dX1_visit_52 : decode cX1_visit 52 = .ok (.ifCond .eq 38, 3) := by decide +kernel
theorem dX1_visit_55 : decode cX1_visit 55 = .ok (.aload_n 0, 1) := by decide +kernel
theorem dX1_visit_56 : decode cX1_visit 56 = .ok (.getfield 46, 3) := by decide +kernel
theorem dX1_visit_59 : decode cX1_visit 59 = .ok (.aload_n 0, 1) := by decide +kernel
theorem dX1_visit_60 : decode cX1_visit 60 = .ok (.getfield 54, 3) := by decide +kernel
theorem dX1_visit_63 : decode cX1_visit 63 = .ok (.getfield 90, 3) := by decide +kernel
theorem dX1_visit_66 : decode cX1_visit 66 = .ok (.iload_n 1, 1) := by decide +kernel
theorem dX1_visit_67 : decode cX1_visit 67 = .ok (.iaload, 1) := by decide +kernel
theorem dX1_visit_68 : decode cX1_visit 68 = .ok (.aload_n 0, 1) := by decide +kernel
theorem dX1_visit_69 : decode cX1_visit 69 = .ok (.getfield 54, 3) := by decide +kernel
theorem dX1_visit_72 : decode cX1_visit 72 = .ok (.aload_n 0, 1) := by decide +kernel
theorem dX1_visit_73 : decode cX1_visit 73 = .ok (.getfield 58, 3) := by decide +kernel
theorem dX1_visit_76 : decode cX1_visit 76 = .ok (.aload_n 0, 1) := by decide +kernel
theorem dX1_visit_77 : decode cX1_visit 77 = .ok (.getfield 50, 3) := by decide +kernel
theorem dX1_visit_80 : decode cX1_visit 80 = .ok (.invokevirtual 112, 3) := by decide +kernel
theorem dX1_visit_83 : decode cX1_visit 83 = .ok (.ifCond .eq 7, 3) := by decide +kernel
theorem dX1_visit_86 : decode cX1_visit 86 = .ok (.iconst 1, 1) := by decide +kernel
theorem dX1_visit_87 : decode cX1_visit 87 = .ok (.goto 4, 3) := by decide +kernel
theorem dX1_visit_90 : decode cX1_visit 90 = .ok (.iconst 0, 1) := by decide +kernel
theorem dX1_visit_91 : decode cX1_visit 91 = .ok (.istore 4, 2) := by decide +kernel
theorem dX1_visit_93 : decode cX1_visit 93 = .ok (.iload 4, 2) := by decide +kernel
theorem dX1_visit_95 : decode cX1_visit 95 = .ok (.ifCond .eq 71, 3) := by decide +kernel
theorem dX1_visit_98 : decode cX1_visit 98 = .ok (.aload_n 0, 1) := by decide +kernel
theorem dX1_visit_99 : decode cX1_visit 99 = .ok (.getfield 46, 3) := by decide +kernel
theorem dX1_visit_102 : decode cX1_visit 102 = .ok (.getfield 118, 3) := by decide +kernel
theorem dX1_visit_105 : decode cX1_visit 105 = .ok (.aload_n 0, 1) := by decide +kernel
theorem dX1_visit_106 : decode cX1_visit 106 = .ok (.getfield 54, 3) := by decide +kernel
theorem dX1_visit_109 : decode cX1_visit 109 = .ok (.getfield 86, 3) := by decide +kernel
theorem dX1_visit_112 : decode cX1_visit 112 = .ok (.iload_n 1, 1) := by decide +kernel
theorem dX1_visit_113 : decode cX1_visit 113 = .ok (.iaload, 1) := by decide +kernel
theorem dX1_visit_114 : decode cX1_visit 114 = .ok (.if_icmp .gt 52, 3) := by decide +kernel
theorem dX1_visit_117 : decode cX1_visit 117 = .ok (.iconst 0, 1) := by decide +kernel
theorem dX1_visit_118 : decode cX1_visit 118 = .ok (.istore 5, 2) := by decide +kernel
theorem dX1_visit_120 : decode cX1_visit 120 = .ok (.iload 5, 2) := by decide +kernel
theorem dX1_visit_122 : decode cX1_visit 122 = .ok (.bipush 10, 2) := by decide +kernel
theorem dX1_visit_124 : decode cX1_visit 124 = .ok (.if_icmp .ge 42, 3) := by decide +kernel
theorem dX1_visit_127 : decode cX1_visit 127 = .ok (.aload_n 0, 1) := by decide +kernel
theorem dX1_visit_128 : decode cX1_visit 128 = .ok (.getfield 46, 3) := by decide +kernel
theorem dX1_visit_131 : decode cX1_visit 131 = .ok (.getfield 121, 3) := by decide +kernel
theorem dX1_visit_134 : decode cX1_visit 134 = .ok (.iload 5, 2) := by decide +kernel
theorem dX1_visit_136 : decode cX1_visit 136 = .ok (.invokestatic 74, 3) := by decide +kernel
theorem dX1_visit_139 : decode cX1_visit 139 = .ok (.ifCond .eq 21, 3) := by decide +kernel
theorem dX1_visit_142 : decode cX1_visit 142 = .ok (.aload_n 0, 1) := by decide +kernel
theorem dX1_visit_143 : decode cX1_visit 143 = .ok (.iload_n 1, 1) := by decide +kernel
theorem dX1_visit_144 : decode cX1_visit 144 = .ok (.iload 5, 2) := by decide +kernel
theorem dX1_visit_146 : decode cX1_visit 146 = .ok (.aload_n 0, 1) := by decide +kernel
theorem dX1_visit_147 : decode cX1_visit 147 = .ok (.getfield 46, 3) := by decide +kernel
theorem dX1_visit_150 : decode cX1_visit 150 = .ok (.getfield 124, 3) := by decide +kernel
theorem dX1_visit_153 : decode cX1_visit 153 = .ok (.iload 5, 2) := by decide +kernel
theorem dX1_visit_155 : decode cX1_visit 155 = .ok (.iaload, 1) := by decide +kernel
theorem dX1_visit_156 : decode cX1_visit 156 = .ok (.invokevirtual 127, 3) := by decide +kernel
theorem dX1_visit_159 : decode cX1_visit 159 = .ok (.pop, 1) := by decide +kernel
theorem dX1_visit_160 : decode cX1_visit 160 = .ok (.iinc 5 1, 3) := by decide +kernel
theorem dX1_visit_163 : decode cX1_visit 163 = .ok (.goto (-43), 3) := by decide +kernel
theorem dX1_visit_166 : decode cX1_visit 166 = .ok (.iconst 0, 1) := by decide +kernel
theorem dX1_visit_167 : decode cX1_visit 167 = .ok (.istore 5, 2) := by decide +kernel
theorem dX1_visit_169 : decode cX1_visit 169 = .ok (.iload 5, 2) := by decide +kernel
theorem dX1_visit_171 : decode cX1_visit 171 = .ok (.bipush 10, 2) := by decide +kernel
theorem dX1_visit_173 : decode cX1_visit 173 = .ok (.if_icmp .ge 29, 3) := by decide +kernel
theorem dX1_visit_176 : decode cX1_visit 176 = .ok (.aload_n 0, 1) := by decide +kernel
theorem dX1_visit_177 : decode cX1_visit 177 = .ok (.getfield 54, 3) := by decide +kernel
theorem dX1_visit_180 : decode cX1_visit 180 = .ok (.iload 5, 2) := by decide +kernel
theorem dX1_visit_182 : decode cX1_visit 182 = .ok (.iload_n 1, 1) := by decide +kernel
theorem dX1_visit_183 : decode cX1_visit 183 = .ok (.invokevirtual 131, 3) := by decide +kernel
theorem dX1_visit_186 : decode cX1_visit 186 = .ok (.ifCond .eq 10, 3) := by decide +kernel
theorem dX1_visit_189 : decode cX1_visit 189 = .ok (.aload_n 0, 1) := by decide +kernel
theorem dX1_visit_190 : decode cX1_visit 190 = .ok (.iload_n 1, 1) := by decide +kernel
theorem dX1_visit_191 : decode cX1_visit 191 = .ok (.iload 5, 2) := by decide +kernel
theorem dX1_visit_193 : decode cX1_visit 193 = .ok (.invokevirtual 134, 3) := by decide +kernel
theorem dX1_visit_196 : decode cX1_visit 196 = .ok (.iinc 5 1, 3) := by decide +kernel
theorem dX1_visit_199 : decode cX1_visit 199 = .ok (.goto (-30), 3) := by decide +kernel
theorem dX1_visit_202 : decode cX1_visit 202 = .ok (.iload_n 3, 1) := by decide +kernel
theorem dX1_visit_203 : decode cX1_visit 203 = .ok (.ifCond .eq 20, 3) := by decide +kernel
theorem dX1_visit_206 : decode cX1_visit 206 = .ok (.aload_n 0, 1) := by decide +kernel
theorem dX1_visit_207 : decode cX1_visit 207 = .ok (.getfield 54, 3) := by decide +kernel
theorem dX1_visit_210 : decode cX1_visit 210 = .ok (.getfield 90, 3) := by decide +kernel
theorem dX1_visit_213 : decode cX1_visit 213 = .ok (.iload_n 1, 1) := by decide +kernel
theorem dX1_visit_214 : decode cX1_visit 214 = .ok (.iaload, 1) := by decide +kernel
theorem dX1_visit_215 : decode cX1_visit 215 = .ok (.ifCond .ne 8, 3) := by decide +kernel
theorem dX1_visit_218 : decode cX1_visit 218 = .ok (.aload_n 0, 1) := by decide +kernel
theorem dX1_visit_219 : decode cX1_visit 219 = .ok (.iload_n 1, 1) := by decide +kernel
theorem dX1_visit_220 : decode cX1_visit 220 = .ok (.invokevirtual 138, 3) := by decide +kernel
theorem dX1_visit_223 : decode cX1_visit 223 = .ok (.return_, 1) := by decide +kernel
theorem dX1_storyOf_0 : decode cX1_storyOf 0 = .ok (.aload_n 0, 1) := by decide +kernel
theorem dX1_storyOf_1 : decode cX1_storyOf 1 = .ok (.getfield 54, 3) := by decide +kernel
theorem dX1_storyOf_4 : decode cX1_storyOf 4 = .ok (.getfield 141, 3) := by decide +kernel
theorem dX1_storyOf_7 : decode cX1_storyOf 7 = .ok (.iload_n 1, 1) := by decide +kernel
theorem dX1_storyOf_8 : decode cX1_storyOf 8 = .ok (.iaload, 1) := by decide +kernel
theorem dX1_storyOf_9 : decode cX1_storyOf 9 = .ok (.istore_n 2, 1) := by decide +kernel
theorem dX1_storyOf_10 : decode cX1_storyOf 10 = .ok (.iload_n 2, 1) := by decide +kernel
theorem dX1_storyOf_11 : decode cX1_storyOf 11 = .ok (.ifCond .lt 21, 3) := by decide +kernel
theorem dX1_storyOf_14 : decode cX1_storyOf 14 = .ok (.iload_n 2, 1) := by decide +kernel
theorem dX1_storyOf_15 : decode cX1_storyOf 15 = .ok (.aload_n 0, 1) := by decide +kernel
theorem dX1_storyOf_16 : decode cX1_storyOf 16 = .ok (.getfield 42, 3) := by decide +kernel
theorem dX1_storyOf_19 : decode cX1_storyOf 19 = .ok (.arraylength, 1) := by decide +kernel
theorem dX1_storyOf_20 : decode cX1_storyOf 20 = .ok (.if_icmp .ge 12, 3) := by decide +kernel
theorem dX1_storyOf_23 : decode cX1_storyOf 23 = .ok (.aload_n 0, 1) := by decide +kernel
theorem dX1_storyOf_24 : decode cX1_storyOf 24 = .ok (.getfield 42, 3) := by decide +kernel
theorem dX1_storyOf_27 : decode cX1_storyOf 27 = .ok (.iload_n 2, 1) := by decide +kernel
theorem dX1_storyOf_28 : decode cX1_storyOf 28 = .ok (.aaload, 1) := by decide +kernel
theorem dX1_storyOf_29 : decode cX1_storyOf 29 = .ok (.goto 4, 3) := by decide +kernel
theorem dX1_storyOf_32 : decode cX1_storyOf 32 = .ok (.aconst_null, 1) := by decide +kernel
theorem dX1_storyOf_33 : decode cX1_storyOf 33 = .ok (.areturn, 1) := by decide +kernel
theorem dX1_tellOn_0 : decode cX1_tellOn 0 = .ok (.aload_n 0, 1) := by decide +kernel
theorem dX1_tellOn_1 : decode cX1_tellOn 1 = .ok (.getfield 54, 3) := by decide +kernel
theorem dX1_tellOn_4 : decode cX1_tellOn 4 = .ok (.getfield 104, 3) := by decide +kernel
theorem dX1_tellOn_7 : decode cX1_tellOn 7 = .ok (.iload_n 1, 1) := by decide +kernel
theorem dX1_tellOn_8 : decode cX1_tellOn 8 = .ok (.iaload, 1) := by decide +kernel
theorem dX1_tellOn_9 : decode cX1_tellOn 9 = .ok (.istore_n 3, 1) := by decide +kernel
theorem dX1_tellOn_10 : decode cX1_tellOn 10 = .ok (.aload_n 2, 1) := by decide +kernel
theorem dX1_tellOn_11 : decode cX1_tellOn 11 = .ok (.getfield 107, 3) := by decide +kernel
theorem dX1_tellOn_14 : decode cX1_tellOn 14 = .ok (.iload_n 3, 1) := by decide +kernel
theorem dX1_tellOn_15 : decode cX1_tellOn 15 = .ok (.aload_n 0, 1) := by decide +kernel
theorem dX1_tellOn_16 : decode cX1_tellOn 16 = .ok (.getfield 50, 3) := by decide +kernel
theorem dX1_tellOn_19 : decode cX1_tellOn 19 = .ok (.aload_n 0, 1) := by decide +kernel
theorem dX1_tellOn_20 : decode cX1_tellOn 20 = .ok (.getfield 54, 3) := by decide +kernel
theorem dX1_tellOn_23 : decode cX1_tellOn 23 = .ok (.aload_n 0, 1) := by decide +kernel
theorem dX1_tellOn_24 : decode cX1_tellOn 24 = .ok (.getfield 58, 3) := by decide +kernel
theorem dX1_tellOn_27 : decode cX1_tellOn 27 = .ok (.iconst 0, 1) := by decide +kernel
theorem dX1_tellOn_28 : decode cX1_tellOn 28 = .ok (.iload_n 1, 1) := by decide +kernel
theorem dX1_tellOn_29 : decode cX1_tellOn 29 = .ok (.invokevirtual 145, 3) := by decide +kernel
theorem dX1_tellOn_32 : decode cX1_tellOn 32 = .ok (.iadd, 1) := by decide +kernel
theorem dX1_tellOn_33 : decode cX1_tellOn 33 = .ok (.invokestatic 151, 3) := by decide +kernel
theorem dX1_tellOn_36 : decode cX1_tellOn 36 = .ok (.istore 4, 2) := by decide +kernel
theorem dX1_tellOn_38 : decode cX1_tellOn 38 = .ok (.aload_n 0, 1) := by decide +kernel
theorem dX1_tellOn_39 : decode cX1_tellOn 39 = .ok (.getfield 54, 3) := by decide +kernel
theorem dX1_tellOn_42 : decode cX1_tellOn 42 = .ok (.getfield 90, 3) := by decide +kernel
theorem dX1_tellOn_45 : decode cX1_tellOn 45 = .ok (.iload_n 1, 1) := by decide +kernel
theorem dX1_tellOn_46 : decode cX1_tellOn 46 = .ok (.aload_n 2, 1) := by decide +kernel
theorem dX1_tellOn_47 : decode cX1_tellOn 47 = .ok (.iload_n 3, 1) := by decide +kernel
theorem dX1_tellOn_48 : decode cX1_tellOn 48 = .ok (.iload 4, 2) := by decide +kernel
theorem dX1_tellOn_50 : decode cX1_tellOn 50 = .ok (.aload_n 0, 1) := by decide +kernel
theorem dX1_tellOn_51 : decode cX1_tellOn 51 = .ok (.getfield 54, 3) := by decide +kernel
theorem dX1_tellOn_54 : decode cX1_tellOn 54 = .ok (.getfield 90, 3) := by decide +kernel
theorem dX1_tellOn_57 : decode cX1_tellOn 57 = .ok (.iload_n 1, 1) := by decide +kernel
theorem dX1_tellOn_58 : decode cX1_tellOn 58 = .ok (.iaload, 1) := by decide +kernel
theorem dX1_tellOn_59 : decode cX1_tellOn 59 = .ok (.invokevirtual 157, 3) := by decide +kernel
theorem dX1_tellOn_62 : decode cX1_tellOn 62 = .ok (.iastore, 1) := by decide +kernel
theorem dX1_tellOn_63 : decode cX1_tellOn 63 = .ok (.aload_n 0, 1) := by decide +kernel
theorem dX1_tellOn_64 : decode cX1_tellOn 64 = .ok (.getfield 54, 3) := by decide +kernel
theorem dX1_tellOn_67 : decode cX1_tellOn 67 = .ok (.getfield 104, 3) := by decide +kernel
theorem dX1_tellOn_70 : decode cX1_tellOn 70 = .ok (.iload_n 1, 1) := by decide +kernel
theorem dX1_tellOn_71 : decode cX1_tellOn 71 = .ok (.iload 4, 2) := by decide +kernel
theorem dX1_tellOn_73 : decode cX1_tellOn 73 = .ok (.iastore, 1) := by decide +kernel
theorem dX1_tellOn_74 : decode cX1_tellOn 74 = .ok (.return_, 1) := by decide +kernel
theorem dX1_buyOne_0 : decode cX1_buyOne 0 = .ok (.aload_n 0, 1) := by decide +kernel
theorem dX1_buyOne_1 : decode cX1_buyOne 1 = .ok (.getfield 50, 3) := by decide +kernel
theorem dX1_buyOne_4 : decode cX1_buyOne 4 = .ok (.aload_n 0, 1) := by decide +kernel
theorem dX1_buyOne_5 : decode cX1_buyOne 5 = .ok (.getfield 54, 3) := by decide +kernel
theorem dX1_buyOne_8 : decode cX1_buyOne 8 = .ok (.aload_n 0, 1) := by decide +kernel
theorem dX1_buyOne_9 : decode cX1_buyOne 9 = .ok (.getfield 58, 3) := by decide +kernel
theorem dX1_buyOne_12 : decode cX1_buyOne 12 = .ok (.iconst 5, 1) := by decide +kernel
theorem dX1_buyOne_13 : decode cX1_buyOne 13 = .ok (.iload_n 2, 1) := by decide +kernel
theorem dX1_buyOne_14 : decode cX1_buyOne 14 = .ok (.invokevirtual 160, 3) := by decide +kernel
theorem dX1_buyOne_17 : decode cX1_buyOne 17 = .ok (.istore 4, 2) := by decide +kernel
theorem dX1_buyOne_19 : decode cX1_buyOne 19 = .ok (.aload_n 0, 1) := by decide +kernel
theorem dX1_buyOne_20 : decode cX1_buyOne 20 = .ok (.getfield 54, 3) := by decide +kernel
theorem dX1_buyOne_23 : decode cX1_buyOne 23 = .ok (.getfield 86, 3) := by decide +kernel
theorem dX1_buyOne_26 : decode cX1_buyOne 26 = .ok (.iload_n 1, 1) := by decide +kernel
theorem dX1_buyOne_27 : decode cX1_buyOne 27 = .ok (.dup2, 1) := by decide +kernel
theorem dX1_buyOne_28 : decode cX1_buyOne 28 = .ok (.iaload, 1) := by decide +kernel
theorem dX1_buyOne_29 : decode cX1_buyOne 29 = .ok (.iload_n 3, 1) := by decide +kernel
theorem dX1_buyOne_30 : decode cX1_buyOne 30 = .ok (.isub, 1) := by decide +kernel
theorem dX1_buyOne_31 : decode cX1_buyOne 31 = .ok (.iastore, 1) := by decide +kernel
theorem dX1_buyOne_32 : decode cX1_buyOne 32 = .ok (.aload_n 0, 1) := by decide +kernel
theorem dX1_buyOne_33 : decode cX1_buyOne 33 = .ok (.getfield 54, 3) := by decide +kernel
theorem dX1_buyOne_36 : decode cX1_buyOne 36 = .ok (.getfield 163, 3) := by decide +kernel
theorem dX1_buyOne_39 : decode cX1_buyOne 39 = .ok (.iload_n 2, 1) := by decide +kernel
theorem dX1_buyOne_40 : decode cX1_buyOne 40 = .ok (.dup2, 1) := by decide +kernel
theorem dX1_buyOne_41 : decode cX1_buyOne 41 = .ok (.iaload, 1) := by decide +kernel
theorem dX1_buyOne_42 : decode cX1_buyOne 42 = .ok (.iconst 1, 1) := by decide +kernel
theorem dX1_buyOne_43 : decode cX1_buyOne 43 = .ok (.isub, 1) := by decide +kernel
theorem dX1_buyOne_44 : decode cX1_buyOne 44 = .ok (.iastore, 1) := by decide +kernel
theorem dX1_buyOne_45 : decode cX1_buyOne 45 = .ok (.aload_n 0, 1) := by decide +kernel
theorem dX1_buyOne_46 : decode cX1_buyOne 46 = .ok (.dup, 1) := by decide +kernel
theorem dX1_buyOne_47 : decode cX1_buyOne 47 = .ok (.getfield 15, 3) := by decide +kernel
theorem dX1_buyOne_50 : decode cX1_buyOne 50 = .ok (.iload_n 3, 1) := by decide +kernel
theorem dX1_buyOne_51 : decode cX1_buyOne 51 = .ok (.iadd, 1) := by decide +kernel
theorem dX1_buyOne_52 : decode cX1_buyOne 52 = .ok (.putfield 15, 3) := by decide +kernel
theorem dX1_buyOne_55 : decode cX1_buyOne 55 = .ok (.aload_n 0, 1) := by decide +kernel
theorem dX1_buyOne_56 : decode cX1_buyOne 56 = .ok (.dup, 1) := by decide +kernel
theorem dX1_buyOne_57 : decode cX1_buyOne 57 = .ok (.getfield 18, 3) := by decide +kernel
theorem dX1_buyOne_60 : decode cX1_buyOne 60 = .ok (.iconst 1, 1) := by decide +kernel
theorem dX1_buyOne_61 : decode cX1_buyOne 61 = .ok (.iadd, 1) := by decide +kernel
theorem dX1_buyOne_62 : decode cX1_buyOne 62 = .ok (.putfield 18, 3) := by decide +kernel
theorem dX1_buyOne_65 : decode cX1_buyOne 65 = .ok (.aload_n 0, 1) := by decide +kernel
theorem dX1_buyOne_66 : decode cX1_buyOne 66 = .ok (.getfield 46, 3) := by decide +kernel
theorem dX1_buyOne_69 : decode cX1_buyOne 69 = .ok (.getfield 166, 3) := by decide +kernel
theorem dX1_buyOne_72 : decode cX1_buyOne 72 = .ok (.iload_n 2, 1) := by decide +kernel
theorem dX1_buyOne_73 : decode cX1_buyOne 73 = .ok (.iaload, 1) := by decide +kernel
theorem dX1_buyOne_74 : decode cX1_buyOne 74 = .ok (.istore 5, 2) := by decide +kernel
theorem dX1_buyOne_76 : decode cX1_buyOne 76 = .ok (.aload_n 0, 1) := by decide +kernel
theorem dX1_buyOne_77 : decode cX1_buyOne 77 = .ok (.getfield 54, 3) := by decide +kernel
theorem dX1_buyOne_80 : decode cX1_buyOne 80 = .ok (.invokevirtual 169, 3) := by decide +kernel
theorem dX1_buyOne_83 : decode cX1_buyOne 83 = .ok (.iload 4, 2) := by decide +kernel
theorem dX1_buyOne_85 : decode cX1_buyOne 85 = .ok (.if_icmp .ge 22, 3) := by decide +kernel
theorem dX1_buyOne_88 : decode cX1_buyOne 88 = .ok (.iload 5, 2) := by decide +kernel
theorem dX1_buyOne_90 : decode cX1_buyOne 90 = .ok (.iload 5, 2) := by decide +kernel
theorem dX1_buyOne_92 : decode cX1_buyOne 92 = .ok (.iconst 1, 1) := by decide +kernel
theorem dX1_buyOne_93 : decode cX1_buyOne 93 = .ok (.isub, 1) := by decide +kernel
theorem dX1_buyOne_94 : decode cX1_buyOne 94 = .ok (.iand, 1) := by decide +kernel
theorem dX1_buyOne_95 : decode cX1_buyOne 95 = .ok (.istore 5, 2) := by decide +kernel
theorem dX1_buyOne_97 : decode cX1_buyOne 97 = .ok (.aload_n 0, 1) := by decide +kernel
theorem dX1_buyOne_98 : decode cX1_buyOne 98 = .ok (.dup, 1) := by decide +kernel
theorem dX1_buyOne_99 : decode cX1_buyOne 99 = .ok (.getfield 21, 3) := by decide +kernel
theorem dX1_buyOne_102 : decode cX1_buyOne 102 = .ok (.iconst 1, 1) := by decide +kernel
theorem dX1_buyOne_103 : decode cX1_buyOne 103 = .ok (.iadd, 1) := by decide +kernel
theorem dX1_buyOne_104 : decode cX1_buyOne 104 = .ok (.putfield 21, 3) := by decide +kernel
theorem dX1_buyOne_107 : decode cX1_buyOne 107 = .ok (.aload_n 0, 1) := by decide +kernel
theorem dX1_buyOne_108 : decode cX1_buyOne 108 = .ok (.getfield 54, 3) := by decide +kernel
theorem dX1_buyOne_111 : decode cX1_buyOne 111 = .ok (.getfield 90, 3) := by decide +kernel
theorem dX1_buyOne_114 : decode cX1_buyOne 114 = .ok (.iload_n 1, 1) := by decide +kernel
theorem dX1_buyOne_115 : decode cX1_buyOne 115 = .ok (.iaload, 1) := by decide +kernel
theorem dX1_buyOne_116 : decode cX1_buyOne 116 = .ok (.iload 5, 2) := by decide +kernel
theorem dX1_buyOne_118 : decode cX1_buyOne 118 = .ok (.iand, 1) := by decide +kernel
theorem dX1_buyOne_119 : decode cX1_buyOne 119 = .ok (.istore 6, 2) := by decide +kernel
theorem dX1_buyOne_121 : decode cX1_buyOne 121 = .ok (.aload_n 0, 1) := by decide +kernel
theorem dX1_buyOne_122 : decode cX1_buyOne 122 = .ok (.getfield 54, 3) := by decide +kernel
theorem dX1_buyOne_125 : decode cX1_buyOne 125 = .ok (.getfield 90, 3) := by decide +kernel
theorem dX1_buyOne_128 : decode cX1_buyOne 128 = .ok (.iload_n 1, 1) := by decide +kernel
theorem dX1_buyOne_129 : decode cX1_buyOne 129 = .ok (.dup2, 1) := by decide +kernel
theorem dX1_buyOne_130 : decode cX1_buyOne 130 = .ok (.iaload, 1) := by decide +kernel
theorem dX1_buyOne_131 : decode cX1_buyOne 131 = .ok (.iload 5, 2) := by decide +kernel
theorem dX1_buyOne_133 : decode cX1_buyOne 133 = .ok (.iconst (-1), 1) := by decide +kernel
theorem dX1_buyOne_134 : decode cX1_buyOne 134 = .ok (.ixor, 1) := by decide +kernel
theorem dX1_buyOne_135 : decode cX1_buyOne 135 = .ok (.iand, 1) := by decide +kernel
theorem dX1_buyOne_136 : decode cX1_buyOne 136 = .ok (.iastore, 1) := by decide +kernel
theorem dX1_buyOne_137 : decode cX1_buyOne 137 = .ok (.iload 6, 2) := by decide +kernel
theorem dX1_buyOne_139 : decode cX1_buyOne 139 = .ok (.ireturn, 1) := by decide +kernel
theorem dX1_listen_0 : decode cX1_listen 0 = .ok (.aload_n 0, 1) := by decide +kernel
theorem dX1_listen_1 : decode cX1_listen 1 = .ok (.getfield 54, 3) := by decide +kernel
theorem dX1_listen_4 : decode cX1_listen 4 = .ok (.getfield 90, 3) := by decide +kernel
theorem dX1_listen_7 : decode cX1_listen 7 = .ok (.iload_n 1, 1) := by decide +kernel
theorem dX1_listen_8 : decode cX1_listen 8 = .ok (.iaload, 1) := by decide +kernel
theorem dX1_listen_9 : decode cX1_listen 9 = .ok (.ifCond .eq 29, 3) := by decide +kernel
theorem dX1_listen_12 : decode cX1_listen 12 = .ok (.aload_n 0, 1) := by decide +kernel
theorem dX1_listen_13 : decode cX1_listen 13 = .ok (.iload_n 2, 1) := by decide +kernel
theorem dX1_listen_14 : decode cX1_listen 14 = .ok (.aload_n 0, 1) := by decide +kernel
theorem dX1_listen_15 : decode cX1_listen 15 = .ok (.getfield 50, 3) := by decide +kernel
theorem dX1_listen_18 : decode cX1_listen 18 = .ok (.aload_n 0, 1) := by decide +kernel
theorem dX1_listen_19 : decode cX1_listen 19 = .ok (.getfield 54, 3) := by decide +kernel
theorem dX1_listen_22 : decode cX1_listen 22 = .ok (.aload_n 0, 1) := by decide +kernel
theorem dX1_listen_23 : decode cX1_listen 23 = .ok (.getfield 58, 3) := by decide +kernel
theorem dX1_listen_26 : decode cX1_listen 26 = .ok (.iconst 2, 1) := by decide +kernel
theorem dX1_listen_27 : decode cX1_listen 27 = .ok (.iload_n 1, 1) := by decide +kernel
theorem dX1_listen_28 : decode cX1_listen 28 = .ok (.iload_n 2, 1) := by decide +kernel
theorem dX1_listen_29 : decode cX1_listen 29 = .ok (.invokevirtual 173, 3) := by decide +kernel
theorem dX1_listen_32 : decode cX1_listen 32 = .ok (.invokevirtual 177, 3) := by decide +kernel
theorem dX1_listen_35 : decode cX1_listen 35 = .ok (.goto 46, 3) := by decide +kernel
theorem dX1_listen_38 : decode cX1_listen 38 = .ok (.aload_n 0, 1) := by decide +kernel
theorem dX1_listen_39 : decode cX1_listen 39 = .ok (.getfield 50, 3) := by decide +kernel
theorem dX1_listen_42 : decode cX1_listen 42 = .ok (.aload_n 0, 1) := by decide +kernel
theorem dX1_listen_43 : decode cX1_listen 43 = .ok (.getfield 54, 3) := by decide +kernel
theorem dX1_listen_46 : decode cX1_listen 46 = .ok (.aload_n 0, 1) := by decide +kernel
theorem dX1_listen_47 : decode cX1_listen 47 = .ok (.getfield 58, 3) := by decide +kernel
theorem dX1_listen_50 : decode cX1_listen 50 = .ok (.iconst 3, 1) := by decide +kernel
theorem dX1_listen_51 : decode cX1_listen 51 = .ok (.iload_n 1, 1) := by decide +kernel
theorem dX1_listen_52 : decode cX1_listen 52 = .ok (.iload_n 2, 1) := by decide +kernel
theorem dX1_listen_53 : decode cX1_listen 53 = .ok (.invokevirtual 173, 3) := by decide +kernel
theorem dX1_listen_56 : decode cX1_listen 56 = .ok (.istore_n 3, 1) := by decide +kernel
theorem dX1_listen_57 : decode cX1_listen 57 = .ok (.aload_n 0, 1) := by decide +kernel
theorem dX1_listen_58 : decode cX1_listen 58 = .ok (.getfield 54, 3) := by decide +kernel
theorem dX1_listen_61 : decode cX1_listen 61 = .ok (.getfield 93, 3) := by decide +kernel
theorem dX1_listen_64 : decode cX1_listen 64 = .ok (.iload_n 2, 1) := by decide +kernel
theorem dX1_listen_65 : decode cX1_listen 65 = .ok (.iconst 0, 1) := by decide +kernel
theorem dX1_listen_66 : decode cX1_listen 66 = .ok (.aload_n 0, 1) := by decide +kernel
theorem dX1_listen_67 : decode cX1_listen 67 = .ok (.getfield 54, 3) := by decide +kernel
theorem dX1_listen_70 : decode cX1_listen 70 = .ok (.getfield 93, 3) := by decide +kernel
theorem dX1_listen_73 : decode cX1_listen 73 = .ok (.iload_n 2, 1) := by decide +kernel
theorem dX1_listen_74 : decode cX1_listen 74 = .ok (.iaload, 1) := by decide +kernel
theorem dX1_listen_75 : decode cX1_listen 75 = .ok (.iload_n 3, 1) := by decide +kernel
theorem dX1_listen_76 : decode cX1_listen 76 = .ok (.isub, 1) := by decide +kernel
theorem dX1_listen_77 : decode cX1_listen 77 = .ok (.invokestatic 180, 3) := by decide +kernel
theorem dX1_listen_80 : decode cX1_listen 80 = .ok (.iastore, 1) := by decide +kernel
theorem dX1_listen_81 : decode cX1_listen 81 = .ok (.aload_n 0, 1) := by decide +kernel
theorem dX1_listen_82 : decode cX1_listen 82 = .ok (.getfield 50, 3) := by decide +kernel
theorem dX1_listen_85 : decode cX1_listen 85 = .ok (.aload_n 0, 1) := by decide +kernel
theorem dX1_listen_86 : decode cX1_listen 86 = .ok (.getfield 54, 3) := by decide +kernel
theorem dX1_listen_89 : decode cX1_listen 89 = .ok (.aload_n 0, 1) := by decide +kernel
theorem dX1_listen_90 : decode cX1_listen 90 = .ok (.getfield 58, 3) := by decide +kernel
theorem dX1_listen_93 : decode cX1_listen 93 = .ok (.bipush 6, 2) := by decide +kernel
theorem dX1_listen_95 : decode cX1_listen 95 = .ok (.iload_n 1, 1) := by decide +kernel
theorem dX1_listen_96 : decode cX1_listen 96 = .ok (.iload_n 2, 1) := by decide +kernel
theorem dX1_listen_97 : decode cX1_listen 97 = .ok (.invokevirtual 173, 3) := by decide +kernel
theorem dX1_listen_100 : decode cX1_listen 100 = .ok (.ifCond .eq 24, 3) := by decide +kernel
theorem dX1_listen_103 : decode cX1_listen 103 = .ok (.aload_n 0, 1) := by decide +kernel
theorem dX1_listen_104 : decode cX1_listen 104 = .ok (.getfield 54, 3) := by decide +kernel
theorem dX1_listen_107 : decode cX1_listen 107 = .ok (.getfield 183, 3) := by decide +kernel
theorem dX1_listen_110 : decode cX1_listen 110 = .ok (.iload_n 2, 1) := by decide +kernel
theorem dX1_listen_111 : decode cX1_listen 111 = .ok (.bipush (-2), 2) := by decide +kernel
theorem dX1_listen_113 : decode cX1_listen 113 = .ok (.iastore, 1) := by decide +kernel
theorem dX1_listen_114 : decode cX1_listen 114 = .ok (.aload_n 0, 1) := by decide +kernel
theorem dX1_listen_115 : decode cX1_listen 115 = .ok (.dup, 1) := by decide +kernel
theorem dX1_listen_116 : decode cX1_listen 116 = .ok (.getfield 27, 3) := by decide +kernel
theorem dX1_listen_119 : decode cX1_listen 119 = .ok (.iconst 1, 1) := by decide +kernel
theorem dX1_listen_120 : decode cX1_listen 120 = .ok (.iadd, 1) := by decide +kernel
theorem dX1_listen_121 : decode cX1_listen 121 = .ok (.putfield 27, 3) := by decide +kernel
theorem dX1_listen_124 : decode cX1_listen 124 = .ok (.return_, 1) := by decide +kernel
theorem dX1_tire_0 : decode cX1_tire 0 = .ok (.aload_n 0, 1) := by decide +kernel
theorem dX1_tire_1 : decode cX1_tire 1 = .ok (.getfield 54, 3) := by decide +kernel
theorem dX1_tire_4 : decode cX1_tire 4 = .ok (.getfield 93, 3) := by decide +kernel
theorem dX1_tire_7 : decode cX1_tire 7 = .ok (.iload_n 1, 1) := by decide +kernel
theorem dX1_tire_8 : decode cX1_tire 8 = .ok (.iaload, 1) := by decide +kernel
theorem dX1_tire_9 : decode cX1_tire 9 = .ok (.istore_n 3, 1) := by decide +kernel
theorem dX1_tire_10 : decode cX1_tire 10 = .ok (.aload_n 0, 1) := by decide +kernel
theorem dX1_tire_11 : decode cX1_tire 11 = .ok (.getfield 54, 3) := by decide +kernel
theorem dX1_tire_14 : decode cX1_tire 14 = .ok (.getfield 93, 3) := by decide +kernel
theorem dX1_tire_17 : decode cX1_tire 17 = .ok (.iload_n 1, 1) := by decide +kernel
theorem dX1_tire_18 : decode cX1_tire 18 = .ok (.bipush 9, 2) := by decide +kernel
theorem dX1_tire_20 : decode cX1_tire 20 = .ok (.iload_n 3, 1) := by decide +kernel
theorem dX1_tire_21 : decode cX1_tire 21 = .ok (.iload_n 2, 1) := by decide +kernel
theorem dX1_tire_22 : decode cX1_tire 22 = .ok (.iadd, 1) := by decide +kernel
theorem dX1_tire_23 : decode cX1_tire 23 = .ok (.invokestatic 151, 3) := by decide +kernel
theorem dX1_tire_26 : decode cX1_tire 26 = .ok (.iastore, 1) := by decide +kernel
theorem dX1_tire_27 : decode cX1_tire 27 = .ok (.iload_n 3, 1) := by decide +kernel
theorem dX1_tire_28 : decode cX1_tire 28 = .ok (.bipush 9, 2) := by decide +kernel
theorem dX1_tire_30 : decode cX1_tire 30 = .ok (.if_icmp .ge 61, 3) := by decide +kernel
theorem dX1_tire_33 : decode cX1_tire 33 = .ok (.aload_n 0, 1) := by decide +kernel
theorem dX1_tire_34 : decode cX1_tire 34 = .ok (.getfield 54, 3) := by decide +kernel
theorem dX1_tire_37 : decode cX1_tire 37 = .ok (.getfield 93, 3) := by decide +kernel
theorem dX1_tire_40 : decode cX1_tire 40 = .ok (.iload_n 1, 1) := by decide +kernel
theorem dX1_tire_41 : decode cX1_tire 41 = .ok (.iaload, 1) := by decide +kernel
theorem dX1_tire_42 : decode cX1_tire 42 = .ok (.bipush 9, 2) := by decide +kernel
theorem dX1_tire_44 : decode cX1_tire 44 = .ok (.if_icmp .ne 47, 3) := by decide +kernel
theorem dX1_tire_47 : decode cX1_tire 47 = .ok (.aload_n 0, 1) := by decide +kernel
theorem dX1_tire_48 : decode cX1_tire 48 = .ok (.getfield 54, 3) := by decide +kernel
theorem dX1_tire_51 : decode cX1_tire 51 = .ok (.dup, 1) := by decide +kernel
theorem dX1_tire_52 : decode cX1_tire 52 = .ok (.getfield 186, 3) := by decide +kernel
theorem dX1_tire_55 : decode cX1_tire 55 = .ok (.iconst 1, 1) := by decide +kernel
theorem dX1_tire_56 : decode cX1_tire 56 = .ok (.iadd, 1) := by decide +kernel
theorem dX1_tire_57 : decode cX1_tire 57 = .ok (.putfield 186, 3) := by decide +kernel
theorem dX1_tire_60 : decode cX1_tire 60 = .ok (.aload_n 0, 1) := by decide +kernel
theorem dX1_tire_61 : decode cX1_tire 61 = .ok (.dup, 1) := by decide +kernel
theorem dX1_tire_62 : decode cX1_tire 62 = .ok (.getfield 24, 3) := by decide +kernel
theorem dX1_tire_65 : decode cX1_tire 65 = .ok (.iconst 1, 1) := by decide +kernel
theorem dX1_tire_66 : decode cX1_tire 66 = .ok (.iadd, 1) := by decide +kernel
theorem dX1_tire_67 : decode cX1_tire 67 = .ok (.putfield 24, 3) := by decide +kernel
theorem dX1_tire_70 : decode cX1_tire 70 = .ok (.aload_n 0, 1) := by decide +kernel
theorem dX1_tire_71 : decode cX1_tire 71 = .ok (.getfield 24, 3) := by decide +kernel
theorem dX1_tire_74 : decode cX1_tire 74 = .ok (.iconst 1, 1) := by decide +kernel
theorem dX1_tire_75 : decode cX1_tire 75 = .ok (.if_icmp .ne 16, 3) := by decide +kernel
theorem dX1_tire_78 : decode cX1_tire 78 = .ok (.aload_n 0, 1) := by decide +kernel
theorem dX1_tire_79 : decode cX1_tire 79 = .ok (.iload_n 1, 1) := by decide +kernel
theorem dX1_tire_80 : decode cX1_tire 80 = .ok (.putfield 36, 3) := by decide +kernel
theorem dX1_tire_83 : decode cX1_tire 83 = .ok (.aload_n 0, 1) := by decide +kernel
theorem dX1_tire_84 : decode cX1_tire 84 = .ok (.aload_n 0, 1) := by decide +kernel
theorem dX1_tire_85 : decode cX1_tire 85 = .ok (.getfield 9, 3) := by decide +kernel
theorem dX1_tire_88 : decode cX1_tire 88 = .ok (.putfield 39, 3) := by decide +kernel
theorem dX1_tire_91 : decode cX1_tire 91 = .ok (.return_, 1) := by decide +kernel
theorem dX1_collect_0 : decode cX1_collect 0 = .ok (.iconst 0, 1) := by decide +kernel
theorem dX1_collect_1 : decode cX1_collect 1 = .ok (.istore_n 2, 1) := by decide +kernel
theorem dX1_collect_2 : decode cX1_collect 2 = .ok (.iload_n 2, 1) := by decide +kernel
theorem dX1_collect_3 : decode cX1_collect 3 = .ok (.bipush 10, 2) := by decide +kernel
theorem dX1_collect_5 : decode cX1_collect 5 = .ok (.if_icmp .ge 88, 3) := by decide +kernel
theorem dX1_collect_8 : decode cX1_collect 8 = .ok (.aload_n 0, 1) := by decide +kernel
theorem dX1_collect_9 : decode cX1_collect 9 = .ok (.getfield 54, 3) := by decide +kernel
theorem dX1_collect_12 : decode cX1_collect 12 = .ok (.iload_n 2, 1) := by decide +kernel
theorem dX1_collect_13 : decode cX1_collect 13 = .ok (.iload_n 1, 1) := by decide +kernel
theorem dX1_collect_14 : decode cX1_collect 14 = .ok (.invokevirtual 131, 3) := by decide +kernel
theorem dX1_collect_17 : decode cX1_collect 17 = .ok (.ifCond .eq 70, 3) := by decide +kernel
theorem dX1_collect_20 : decode cX1_collect 20 = .ok (.aload_n 0, 1) := by decide +kernel
theorem dX1_collect_21 : decode cX1_collect 21 = .ok (.getfield 50, 3) := by decide +kernel
theorem dX1_collect_24 : decode cX1_collect 24 = .ok (.aload_n 0, 1) := by decide +kernel
theorem dX1_collect_25 : decode cX1_collect 25 = .ok (.getfield 54, 3) := by decide +kernel
theorem dX1_collect_28 : decode cX1_collect 28 = .ok (.aload_n 0, 1) := by decide +kernel
theorem dX1_collect_29 : decode cX1_collect 29 = .ok (.getfield 58, 3) := by decide +kernel
theorem dX1_collect_32 : decode cX1_collect 32 = .ok (.iconst 4, 1) := by decide +kernel
theorem dX1_collect_33 : decode cX1_collect 33 = .ok (.iload_n 1, 1) := by decide +kernel
theorem dX1_collect_34 : decode cX1_collect 34 = .ok (.iload_n 2, 1) := by decide +kernel
theorem dX1_collect_35 : decode cX1_collect 35 = .ok (.invokevirtual 173, 3) := by decide +kernel
theorem dX1_collect_38 : decode cX1_collect 38 = .ok (.istore_n 3, 1) := by decide +kernel
theorem dX1_collect_39 : decode cX1_collect 39 = .ok (.sipush 9999, 3) := by decide +kernel
theorem dX1_collect_42 : decode cX1_collect 42 = .ok (.aload_n 0, 1) := by decide +kernel
theorem dX1_collect_43 : decode cX1_collect 43 = .ok (.getfield 54, 3) := by decide +kernel
theorem dX1_collect_46 : decode cX1_collect 46 = .ok (.getfield 86, 3) := by decide +kernel
theorem dX1_collect_49 : decode cX1_collect 49 = .ok (.iload_n 1, 1) := by decide +kernel
theorem dX1_collect_50 : decode cX1_collect 50 = .ok (.iaload, 1) := by decide +kernel
theorem dX1_collect_51 : decode cX1_collect 51 = .ok (.isub, 1) := by decide +kernel
theorem dX1_collect_52 : decode cX1_collect 52 = .ok (.istore 4, 2) := by decide +kernel
theorem dX1_collect_54 : decode cX1_collect 54 = .ok (.aload_n 0, 1) := by decide +kernel
theorem dX1_collect_55 : decode cX1_collect 55 = .ok (.getfield 54, 3) := by decide +kernel
theorem dX1_collect_58 : decode cX1_collect 58 = .ok (.getfield 86, 3) := by decide +kernel
theorem dX1_collect_61 : decode cX1_collect 61 = .ok (.iload_n 1, 1) := by decide +kernel
theorem dX1_collect_62 : decode cX1_collect 62 = .ok (.dup2, 1) := by decide +kernel
theorem dX1_collect_63 : decode cX1_collect 63 = .ok (.iaload, 1) := by decide +kernel
theorem dX1_collect_64 : decode cX1_collect 64 = .ok (.iload_n 3, 1) := by decide +kernel
theorem dX1_collect_65 : decode cX1_collect 65 = .ok (.iload 4, 2) := by decide +kernel
theorem dX1_collect_67 : decode cX1_collect 67 = .ok (.invokestatic 151, 3) := by decide +kernel
theorem dX1_collect_70 : decode cX1_collect 70 = .ok (.iadd, 1) := by decide +kernel
theorem dX1_collect_71 : decode cX1_collect 71 = .ok (.iastore, 1) := by decide +kernel
theorem dX1_collect_72 : decode cX1_collect 72 = .ok (.aload_n 0, 1) := by decide +kernel
theorem dX1_collect_73 : decode cX1_collect 73 = .ok (.dup, 1) := by decide +kernel
theorem dX1_collect_74 : decode cX1_collect 74 = .ok (.getfield 33, 3) := by decide +kernel
theorem dX1_collect_77 : decode cX1_collect 77 = .ok (.iload_n 3, 1) := by decide +kernel
theorem dX1_collect_78 : decode cX1_collect 78 = .ok (.iload 4, 2) := by decide +kernel
theorem dX1_collect_80 : decode cX1_collect 80 = .ok (.invokestatic 151, 3) := by decide +kernel
theorem dX1_collect_83 : decode cX1_collect 83 = .ok (.iadd, 1) := by decide +kernel
theorem dX1_collect_84 : decode cX1_collect 84 = .ok (.putfield 33, 3) := by decide +kernel
theorem dX1_collect_87 : decode cX1_collect 87 = .ok (.iinc 2 1, 3) := by decide +kernel
theorem dX1_collect_90 : decode cX1_collect 90 = .ok (.goto (-88), 3) := by decide +kernel
theorem dX1_collect_93 : decode cX1_collect 93 = .ok (.aload_n 0, 1) := by decide +kernel
theorem dX1_collect_94 : decode cX1_collect 94 = .ok (.getfield 54, 3) := by decide +kernel
theorem dX1_collect_97 : decode cX1_collect 97 = .ok (.dup, 1) := by decide +kernel
theorem dX1_collect_98 : decode cX1_collect 98 = .ok (.getfield 187, 3) := by decide +kernel
theorem dX1_collect_101 : decode cX1_collect 101 = .ok (.iconst 1, 1) := by decide +kernel
theorem dX1_collect_102 : decode cX1_collect 102 = .ok (.iadd, 1) := by decide +kernel
theorem dX1_collect_103 : decode cX1_collect 103 = .ok (.putfield 187, 3) := by decide +kernel
theorem dX1_collect_106 : decode cX1_collect 106 = .ok (.aload_n 0, 1) := by decide +kernel
theorem dX1_collect_107 : decode cX1_collect 107 = .ok (.dup, 1) := by decide +kernel
theorem dX1_collect_108 : decode cX1_collect 108 = .ok (.getfield 30, 3) := by decide +kernel
theorem dX1_collect_111 : decode cX1_collect 111 = .ok (.iconst 1, 1) := by decide +kernel
theorem dX1_collect_112 : decode cX1_collect 112 = .ok (.iadd, 1) := by decide +kernel
theorem dX1_collect_113 : decode cX1_collect 113 = .ok (.putfield 30, 3) := by decide +kernel
theorem dX1_collect_116 : decode cX1_collect 116 = .ok (.aload_n 0, 1) := by decide +kernel
theorem dX1_collect_117 : decode cX1_collect 117 = .ok (.getfield 54, 3) := by decide +kernel
theorem dX1_collect_120 : decode cX1_collect 120 = .ok (.getfield 104, 3) := by decide +kernel
theorem dX1_collect_123 : decode cX1_collect 123 = .ok (.iload_n 1, 1) := by decide +kernel
theorem dX1_collect_124 : decode cX1_collect 124 = .ok (.iconst 0, 1) := by decide +kernel
theorem dX1_collect_125 : decode cX1_collect 125 = .ok (.iastore, 1) := by decide +kernel
theorem dX1_collect_126 : decode cX1_collect 126 = .ok (.return_, 1) := by decide +kernel
theorem dX2_init_0 : decode cX2_init 0 = .ok (.aload_n 0, 1) := by decide +kernel
theorem dX2_init_1 : decode cX2_init 1 = .ok (.invokespecial 3, 3) := by decide +kernel
theorem dX2_init_4 : decode cX2_init 4 = .ok (.aload_n 0, 1) := by decide +kernel
theorem dX2_init_5 : decode cX2_init 5 = .ok (.iconst 0, 1) := by decide +kernel
theorem dX2_init_6 : decode cX2_init 6 = .ok (.putfield 9, 3) := by decide +kernel
theorem dX2_init_9 : decode cX2_init 9 = .ok (.aload_n 0, 1) := by decide +kernel
theorem dX2_init_10 : decode cX2_init 10 = .ok (.bipush 10, 2) := by decide +kernel
theorem dX2_init_12 : decode cX2_init 12 = .ok (.newarray .int, 2) := by decide +kernel
theorem dX2_init_14 : decode cX2_init 14 = .ok (.putfield 15, 3) := by decide +kernel
theorem dX2_init_17 : decode cX2_init 17 = .ok (.aload_n 0, 1) := by decide +kernel
theorem dX2_init_18 : decode cX2_init 18 = .ok (.bipush 10, 2) := by decide +kernel
theorem dX2_init_20 : decode cX2_init 20 = .ok (.newarray .int, 2) := by decide +kernel
theorem dX2_init_22 : decode cX2_init 22 = .ok (.putfield 19, 3) := by decide +kernel
theorem dX2_init_25 : decode cX2_init 25 = .ok (.aload_n 0, 1) := by decide +kernel
theorem dX2_init_26 : decode cX2_init 26 = .ok (.bipush 10, 2) := by decide +kernel
theorem dX2_init_28 : decode cX2_init 28 = .ok (.newarray .int, 2) := by decide +kernel
theorem dX2_init_30 : decode cX2_init 30 = .ok (.putfield 22, 3) := by decide +kernel
theorem dX2_init_33 : decode cX2_init 33 = .ok (.aload_n 0, 1) := by decide +kernel
theorem dX2_init_34 : decode cX2_init 34 = .ok (.bipush 10, 2) := by decide +kernel
theorem dX2_init_36 : decode cX2_init 36 = .ok (.newarray .int, 2) := by decide +kernel
theorem dX2_init_38 : decode cX2_init 38 = .ok (.putfield 25, 3) := by decide +kernel
theorem dX2_init_41 : decode cX2_init 41 = .ok (.aload_n 0, 1) := by decide +kernel
theorem dX2_init_42 : decode cX2_init 42 = .ok (.bipush 10, 2) := by decide +kernel
theorem dX2_init_44 : decode cX2_init 44 = .ok (.newarray .int, 2) := by decide +kernel
theorem dX2_init_46 : decode cX2_init 46 = .ok (.putfield 28, 3) := by decide +kernel
theorem dX2_init_49 : decode cX2_init 49 = .ok (.aload_n 0, 1) := by decide +kernel
theorem dX2_init_50 : decode cX2_init 50 = .ok (.sipush 1024, 3) := by decide +kernel
theorem dX2_init_53 : decode cX2_init 53 = .ok (.newarray .int, 2) := by decide +kernel
theorem dX2_init_55 : decode cX2_init 55 = .ok (.putfield 31, 3) := by decide +kernel
theorem dX2_init_58 : decode cX2_init 58 = .ok (.aload_n 0, 1) := by decide +kernel
theorem dX2_init_59 : decode cX2_init 59 = .ok (.sipush 1024, 3) := by decide +kernel
theorem dX2_init_62 : decode cX2_init 62 = .ok (.newarray .int, 2) := by decide +kernel
theorem dX2_init_64 : decode cX2_init 64 = .ok (.putfield 34, 3) := by decide +kernel
theorem dX2_init_67 : decode cX2_init 67 = .ok (.aload_n 0, 1) := by decide +kernel
theorem dX2_init_68 : decode cX2_init 68 = .ok (.iconst 0, 1) := by decide +kernel
theorem dX2_init_69 : decode cX2_init 69 = .ok (.putfield 37, 3) := by decide +kernel
theorem dX2_init_72 : decode cX2_init 72 = .ok (.aload_n 0, 1) := by decide +kernel
theorem dX2_init_73 : decode cX2_init 73 = .ok (.iconst 0, 1) := by decide +kernel
theorem dX2_init_74 : decode cX2_init 74 = .ok (.putfield 40, 3) := by decide +kernel
theorem dX2_init_77 : decode cX2_init 77 = .ok (.aload_n 0, 1) := by decide +kernel
theorem dX2_init_78 : decode cX2_init 78 = .ok (.iconst 0, 1) := by decide +kernel
theorem dX2_init_79 : decode cX2_init 79 = .ok (.putfield 43, 3) := by decide +kernel
theorem dX2_init_82 : decode cX2_init 82 = .ok (.aload_n 0, 1) := by decide +kernel
theorem dX2_init_83 : decode cX2_init 83 = .ok (.iconst 0, 1) := by decide +kernel
theorem dX2_init_84 : decode cX2_init 84 = .ok (.putfield 46, 3) := by decide +kernel
theorem dX2_init_87 : decode cX2_init 87 = .ok (.aload_n 0, 1) := by decide +kernel
theorem dX2_init_88 : decode cX2_init 88 = .ok (.iconst 0, 1) := by decide +kernel
theorem dX2_init_89 : decode cX2_init 89 = .ok (.putfield 49, 3) := by decide +kernel
theorem dX2_init_92 : decode cX2_init 92 = .ok (.return_, 1) := by decide +kernel
theorem dX2_take_0 : decode cX2_take 0 = .ok (.aload_n 0, 1) := by decide +kernel
theorem dX2_take_1 : decode cX2_take 1 = .ok (.getfield 15, 3) := by decide +kernel
theorem dX2_take_4 : decode cX2_take 4 = .ok (.iload_n 1, 1) := by decide +kernel
theorem dX2_take_5 : decode cX2_take 5 = .ok (.iload_n 2, 1) := by decide +kernel
theorem dX2_take_6 : decode cX2_take 6 = .ok (.iastore, 1) := by decide +kernel
theorem dX2_take_7 : decode cX2_take 7 = .ok (.aload_n 0, 1) := by decide +kernel
theorem dX2_take_8 : decode cX2_take 8 = .ok (.getfield 19, 3) := by decide +kernel
theorem dX2_take_11 : decode cX2_take 11 = .ok (.iload_n 1, 1) := by decide +kernel
theorem dX2_take_12 : decode cX2_take 12 = .ok (.iload_n 3, 1) := by decide +kernel
theorem dX2_take_13 : decode cX2_take 13 = .ok (.iastore, 1) := by decide +kernel
theorem dX2_take_14 : decode cX2_take 14 = .ok (.aload_n 0, 1) := by decide +kernel
theorem dX2_take_15 : decode cX2_take 15 = .ok (.getfield 22, 3) := by decide +kernel
theorem dX2_take_18 : decode cX2_take 18 = .ok (.iload_n 1, 1) := by decide +kernel
theorem dX2_take_19 : decode cX2_take 19 = .ok (.iload 4, 2) := by decide +kernel
theorem dX2_take_21 : decode cX2_take 21 = .ok (.iastore, 1) := by decide +kernel
theorem dX2_take_22 : decode cX2_take 22 = .ok (.aload_n 0, 1) := by decide +kernel
theorem dX2_take_23 : decode cX2_take 23 = .ok (.dup, 1) := by decide +kernel
theorem dX2_take_24 : decode cX2_take 24 = .ok (.getfield 9, 3) := by decide +kernel
theorem dX2_take_27 : decode cX2_take 27 = .ok (.iconst 1, 1) := by decide +kernel
theorem dX2_take_28 : decode cX2_take 28 = .ok (.iload_n 1, 1) := by decide +kernel
theorem dX2_take_29 : decode cX2_take 29 = .ok (.ishl, 1) := by decide +kernel
theorem dX2_take_30 : decode cX2_take 30 = .ok (.ior, 1) := by decide +kernel
theorem dX2_take_31 : decode cX2_take 31 = .ok (.putfield 9, 3) := by decide +kernel
theorem dX2_take_34 : decode cX2_take 34 = .ok (.return_, 1) := by decide +kernel
theorem dX2_isTold_0 : decode cX2_isTold 0 = .ok (.iload_n 1, 1) := by decide +kernel
theorem dX2_isTold_1 : decode cX2_isTold 1 = .ok (.iconst 0, 1) := by decide +kernel
theorem dX2_isTold_2 : decode cX2_isTold 2 = .ok (.bipush 9, 2) := by decide +kernel
theorem dX2_isTold_4 : decode cX2_isTold 4 = .ok (.invokestatic 52, 3) := by decide +kernel
theorem dX2_isTold_7 : decode cX2_isTold 7 = .ok (.ifCond .eq 18, 3) := by decide +kernel
theorem dX2_isTold_10 : decode cX2_isTold 10 = .ok (.aload_n 0, 1) := by decide +kernel
theorem dX2_isTold_11 : decode cX2_isTold 11 = .ok (.getfield 9, 3) := by decide +kernel
theorem dX2_isTold_14 : decode cX2_isTold 14 = .ok (.iload_n 1, 1) := by decide +kernel
theorem dX2_isTold_15 : decode cX2_isTold 15 = .ok (.invokestatic 56, 3) := by decide +kernel
theorem dX2_isTold_18 : decode cX2_isTold 18 = .ok (.ifCond .eq 7, 3) := by decide +kernel
theorem dX2_isTold_21 : decode cX2_isTold 21 = .ok (.iconst 1, 1) := by decide +kernel
theorem dX2_isTold_22 : decode cX2_isTold 22 = .ok (.goto 4, 3) := by decide +kernel
theorem dX2_isTold_25 : decode cX2_isTold 25 = .ok (.iconst 0, 1) := by decide +kernel
theorem dX2_isTold_26 : decode cX2_isTold 26 = .ok (.ireturn, 1) := by decide +kernel
theorem dX2_chooseFor_0 : decode cX2_chooseFor 0 = .ok (.iconst 0, 1) := by decide +kernel
theorem dX2_chooseFor_1 : decode cX2_chooseFor 1 = .ok (.istore 5, 2) := by decide +kernel
theorem dX2_chooseFor_3 : decode cX2_chooseFor 3 = .ok (.iconst 0, 1) := by decide +kernel
theorem dX2_chooseFor_4 : decode cX2_chooseFor 4 = .ok (.istore 6, 2) := by decide +kernel
theorem dX2_chooseFor_6 : decode cX2_chooseFor 6 = .ok (.iload 6, 2) := by decide +kernel
theorem dX2_chooseFor_8 : decode cX2_chooseFor 8 = .ok (.bipush 10, 2) := by decide +kernel
theorem dX2_chooseFor_10 : decode cX2_chooseFor 10 = .ok (.if_icmp .ge 72, 3) := by decide +kernel
theorem dX2_chooseFor_13 : decode cX2_chooseFor 13 = .ok (.aload_n 0, 1) := by decide +kernel
theorem dX2_chooseFor_14 : decode cX2_chooseFor 14 = .ok (.getfield 9, 3) := by decide +kernel
theorem dX2_chooseFor_17 : decode cX2_chooseFor 17 = .ok (.iload 6, 2) := by decide +kernel
theorem dX2_chooseFor_19 : decode cX2_chooseFor 19 = .ok (.invokestatic 56, 3) := by decide +kernel
theorem dX2_chooseFor_22 : decode cX2_chooseFor 22 = .ok (.ifCond .eq 54, 3) := by decide +kernel
theorem dX2_chooseFor_25 : decode cX2_chooseFor 25 = .ok (.aload_n 2, 1) := by decide +kernel
theorem dX2_chooseFor_26 : decode cX2_chooseFor 26 = .ok (.getfield 60, 3) := by decide +kernel
theorem dX2_chooseFor_29 : decode cX2_chooseFor 29 = .ok (.iload 6, 2) := by decide +kernel
theorem dX2_chooseFor_31 : decode cX2_chooseFor 31 = .ok (.iaload, 1) := by decide +kernel
theorem dX2_chooseFor_32 : decode cX2_chooseFor 32 = .ok (.ifCond .le 44, 3) := by decide +kernel
theorem dX2_chooseFor_35 : decode cX2_chooseFor 35 = .ok (.aload_n 0, 1) := by decide +kernel
theorem dX2_chooseFor_36 : decode cX2_chooseFor 36 = .ok (.getfield 15, 3) := by decide +kernel
theorem dX2_chooseFor_39 : decode cX2_chooseFor 39 = .ok (.iload 6, 2) := by decide +kernel
theorem dX2_chooseFor_41 : decode cX2_chooseFor 41 = .ok (.iaload, 1) := by decide +kernel
theorem dX2_chooseFor_42 : decode cX2_chooseFor 42 = .ok (.iload_n 1, 1) := by decide +kernel
theorem dX2_chooseFor_43 : decode cX2_chooseFor 43 = .ok (.iand, 1) := by decide +kernel
theorem dX2_chooseFor_44 : decode cX2_chooseFor 44 = .ok (.ifCond .eq 32, 3) := by decide +kernel
theorem dX2_chooseFor_47 : decode cX2_chooseFor 47 = .ok (.aload_n 0, 1) := by decide +kernel
theorem dX2_chooseFor_48 : decode cX2_chooseFor 48 = .ok (.getfield 25, 3) := by decide +kernel
theorem dX2_chooseFor_51 : decode cX2_chooseFor 51 = .ok (.iload 6, 2) := by decide +kernel
theorem dX2_chooseFor_53 : decode cX2_chooseFor 53 = .ok (.aload 4, 2) := by decide +kernel
theorem dX2_chooseFor_55 : decode cX2_chooseFor 55 = .ok (.aload_n 2, 1) := by decide +kernel
theorem dX2_chooseFor_56 : decode cX2_chooseFor 56 = .ok (.aload_n 3, 1) := by decide +kernel
theorem dX2_chooseFor_57 : decode cX2_chooseFor 57 = .ok (.iconst 1, 1) := by decide +kernel
theorem dX2_chooseFor_58 : decode cX2_chooseFor 58 = .ok (.iload 6, 2) := by decide +kernel
theorem dX2_chooseFor_60 : decode cX2_chooseFor 60 = .ok (.invokevirtual 67, 3) := by decide +kernel
theorem dX2_chooseFor_63 : decode cX2_chooseFor 63 = .ok (.iastore, 1) := by decide +kernel
theorem dX2_chooseFor_64 : decode cX2_chooseFor 64 = .ok (.aload_n 0, 1) := by decide +kernel
theorem dX2_chooseFor_65 : decode cX2_chooseFor 65 = .ok (.getfield 28, 3) := by decide +kernel
theorem dX2_chooseFor_68 : decode cX2_chooseFor 68 = .ok (.iload 5, 2) := by decide +kernel
theorem dX2_chooseFor_70 : decode cX2_chooseFor 70 = .ok (.iload 6, 2) := by decide +kernel
theorem dX2_chooseFor_72 : decode cX2_chooseFor 72 = .ok (.iastore, 1) := by decide +kernel
theorem dX2_chooseFor_73 : decode cX2_chooseFor 73 = .ok (.iinc 5 1, 3) := by decide +kernel
theorem dX2_chooseFor_76 : decode cX2_chooseFor 76 = .ok (.iinc 6 1, 3) := by decide +kernel
theorem dX2_chooseFor_79 : decode cX2_chooseFor 79 = .ok (.goto (-73), 3) := by decide +kernel
theorem dX2_chooseFor_82 : decode cX2_chooseFor 82 = .ok (.iconst 0, 1) := by decide +kernel
theorem dX2_chooseFor_83 : decode cX2_chooseFor 83 = .ok (.istore 6, 2) := by decide +kernel
theorem dX2_chooseFor_85 : decode cX2_chooseFor 85 = .ok (.iconst 0, 1) := by decide +kernel
theorem dX2_chooseFor_86 : decode cX2_chooseFor 86 = .ok (.istore 7, 2) := by decide +kernel
theorem dX2_chooseFor_88 : decode cX2_chooseFor 88 = .ok (.iload 7, 2) := by decide +kernel
theorem dX2_chooseFor_90 : decode cX2_chooseFor 90 = .ok (.iload 5, 2) := by decide +kernel
theorem dX2_chooseFor_92 : decode cX2_chooseFor 92 = .ok (.if_icmp .ge 148, 3) := by decide +kernel
theorem dX2_chooseFor_95 : decode cX2_chooseFor 95 = .ok (.iconst 1, 1) := by decide +kernel
theorem dX2_chooseFor_96 : decode cX2_chooseFor 96 = .ok (.iload 7, 2) := by decide +kernel
theorem dX2_chooseFor_98 : decode cX2_chooseFor 98 = .ok (.ishl, 1) := by decide +kernel
theorem dX2_chooseFor_99 : decode cX2_chooseFor 99 = .ok (.istore 8, 2) := by decide +kernel
theorem dX2_chooseFor_101 : decode cX2_chooseFor 101 = .ok (.aload_n 0, 1) := by decide +kernel
theorem dX2_chooseFor_102 : decode cX2_chooseFor 102 = .ok (.getfield 28, 3) := by decide +kernel
theorem dX2_chooseFor_105 : decode cX2_chooseFor 105 = .ok (.iload 7, 2) := by decide +kernel
theorem dX2_chooseFor_107 : decode cX2_chooseFor 107 = .ok (.iaload, 1) := by decide +kernel
theorem dX2_chooseFor_108 : decode cX2_chooseFor 108 = .ok (.istore 9, 2) := by decide +kernel
theorem dX2_chooseFor_110 : decode cX2_chooseFor 110 = .ok (.iload 8, 2) := by decide +kernel
theorem dX2_chooseFor_112 : decode cX2_chooseFor 112 = .ok (.istore 10, 2) := by decide +kernel
theorem dX2_chooseFor_114 : decode cX2_chooseFor 114 = .ok (.iload 10, 2) := by decide +kernel
theorem dX2_chooseFor_116 : decode cX2_chooseFor 116 = .ok (.iconst 2, 1) := by decide +kernel
theorem dX2_chooseFor_117 : decode cX2_chooseFor 117 = .ok (.iload 8, 2) := by decide +kernel
theorem dX2_chooseFor_119 : decode cX2_chooseFor 119 = .ok (.imul, 1) := by decide +kernel
theorem dX2_chooseFor_120 : decode cX2_chooseFor 120 = .ok (.if_icmp .ge 114, 3) := by decide +kernel
theorem dX2_chooseFor_123 : decode cX2_chooseFor 123 = .ok (.aload_n 0, 1) := by decide +kernel
theorem dX2_chooseFor_124 : decode cX2_chooseFor 124 = .ok (.getfield 31, 3) := by decide +kernel
theorem dX2_chooseFor_127 : decode cX2_chooseFor 127 = .ok (.iload 10, 2) := by decide +kernel
theorem dX2_chooseFor_129 : decode cX2_chooseFor 129 = .ok (.iload 10, 2) := by decide +kernel
theorem dX2_chooseFor_131 : decode cX2_chooseFor 131 = .ok (.iload 8, 2) := by decide +kernel
theorem dX2_chooseFor_133 : decode cX2_chooseFor 133 = .ok (.if_icmp .ne 7, 3) := by decide +kernel
theorem dX2_chooseFor_136 : decode cX2_chooseFor 136 = .ok (.iconst 0, 1) := by decide +kernel
theorem dX2_chooseFor_137 : decode cX2_chooseFor 137 = .ok (.goto 13, 3) := by decide +kernel
theorem dX2_chooseFor_140 : decode cX2_chooseFor 140 = .ok (.aload_n 0, 1) := by decide +kernel
theorem dX2_chooseFor_141 : decode cX2_chooseFor 141 = .ok (.getfield 31, 3) := by decide +kernel
theorem dX2_chooseFor_144 : decode cX2_chooseFor 144 = .ok (.iload 10, 2) := by decide +kernel
theorem dX2_chooseFor_146 : decode cX2_chooseFor 146 = .ok (.iload 8, 2) := by decide +kernel
theorem dX2_chooseFor_148 : decode cX2_chooseFor 148 = .ok (.isub, 1) := by decide +kernel
theorem dX2_chooseFor_149 : decode cX2_chooseFor 149 = .ok (.iaload, 1) := by decide +kernel
theorem dX2_chooseFor_150 : decode cX2_chooseFor 150 = .ok (.aload_n 0, 1) := by decide +kernel
theorem dX2_chooseFor_151 : decode cX2_chooseFor 151 = .ok (.getfield 25, 3) := by decide +kernel
theorem dX2_chooseFor_154 : decode cX2_chooseFor 154 = .ok (.iload 9, 2) := by decide +kernel
theorem dX2_chooseFor_156 : decode cX2_chooseFor 156 = .ok (.iaload, 1) := by decide +kernel
theorem dX2_chooseFor_157 : decode cX2_chooseFor 157 = .ok (.iadd, 1) := by decide +kernel
theorem dX2_chooseFor_158 : decode cX2_chooseFor 158 = .ok (.iastore, 1) := by decide +kernel
theorem dX2_chooseFor_159 : decode cX2_chooseFor 159 = .ok (.aload_n 0, 1) := by decide +kernel
theorem dX2_chooseFor_160 : decode cX2_chooseFor 160 = .ok (.getfield 34, 3) := by decide +kernel
theorem dX2_chooseFor_163 : decode cX2_chooseFor 163 = .ok (.iload 10, 2) := by decide +kernel
theorem dX2_chooseFor_165 : decode cX2_chooseFor 165 = .ok (.iload 10, 2) := by decide +kernel
theorem dX2_chooseFor_167 : decode cX2_chooseFor 167 = .ok (.iload 8, 2) := by decide +kernel
theorem dX2_chooseFor_169 : decode cX2_chooseFor 169 = .ok (.if_icmp .ne 7, 3) := by decide +kernel
theorem dX2_chooseFor_172 : decode cX2_chooseFor 172 = .ok (.iconst 0, 1) := by decide +kernel
theorem dX2_chooseFor_173 : decode cX2_chooseFor 173 = .ok (.goto 13, 3) := by decide +kernel
theorem dX2_chooseFor_176 : decode cX2_chooseFor 176 = .ok (.aload_n 0, 1) := by decide +kernel
theorem dX2_chooseFor_177 : decode cX2_chooseFor 177 = .ok (.getfield 34, 3) := by decide +kernel
theorem dX2_chooseFor_180 : decode cX2_chooseFor 180 = .ok (.iload 10, 2) := by decide +kernel
theorem dX2_chooseFor_182 : decode cX2_chooseFor 182 = .ok (.iload 8, 2) := by decide +kernel
theorem dX2_chooseFor_184 : decode cX2_chooseFor 184 = .ok (.isub, 1) := by decide +kernel
theorem dX2_chooseFor_185 : decode cX2_chooseFor 185 = .ok (.iaload, 1) := by decide +kernel
theorem dX2_chooseFor_186 : decode cX2_chooseFor 186 = .ok (.aload_n 0, 1) := by decide +kernel
theorem dX2_chooseFor_187 : decode cX2_chooseFor 187 = .ok (.getfield 15, 3) := by decide +kernel
theorem dX2_chooseFor_190 : decode cX2_chooseFor 190 = .ok (.iload 9, 2) := by decide +kernel
theorem dX2_chooseFor_192 : decode cX2_chooseFor 192 = .ok (.iaload, 1) := by decide +kernel
theorem dX2_chooseFor_193 : decode cX2_chooseFor 193 = .ok (.iload_n 1, 1) := by decide +kernel
theorem dX2_chooseFor_194 : decode cX2_chooseFor 194 = .ok (.iand, 1) := by decide +kernel
theorem dX2_chooseFor_195 : decode cX2_chooseFor 195 = .ok (.ior, 1) := by decide +kernel
theorem dX2_chooseFor_196 : decode cX2_chooseFor 196 = .ok (.iastore, 1) := by decide +kernel
theorem dX2_chooseFor_197 : decode cX2_chooseFor 197 = .ok (.aload_n 0, 1) := by decide +kernel
theorem dX2_chooseFor_198 : decode cX2_chooseFor 198 = .ok (.getfield 34, 3) := by decide +kernel
theorem dX2_chooseFor_201 : decode cX2_chooseFor 201 = .ok (.iload 10, 2) := by decide +kernel
theorem dX2_chooseFor_203 : decode cX2_chooseFor 203 = .ok (.iaload, 1) := by decide +kernel
theorem dX2_chooseFor_204 : decode cX2_chooseFor 204 = .ok (.iload_n 1, 1) := by decide +kernel
theorem dX2_chooseFor_205 : decode cX2_chooseFor 205 = .ok (.if_icmp .ne 23, 3) := by decide +kernel
theorem dX2_chooseFor_208 : decode cX2_chooseFor 208 = .ok (.iload 6, 2) := by decide +kernel
theorem dX2_chooseFor_210 : decode cX2_chooseFor 210 = .ok (.ifCond .eq 14, 3) := by decide +kernel
theorem dX2_chooseFor_213 : decode cX2_chooseFor 213 = .ok (.aload_n 0, 1) := by decide +kernel
theorem dX2_chooseFor_214 : decode cX2_chooseFor 214 = .ok (.iload 10, 2) := by decide +kernel
theorem dX2_chooseFor_216 : decode cX2_chooseFor 216 = .ok (.iload 6, 2) := by decide +kernel
theorem dX2_chooseFor_218 : decode cX2_chooseFor 218 = .ok (.invokevirtual 73, 3) := by decide +kernel
theorem dX2_chooseFor_221 : decode cX2_chooseFor 221 = .ok (.ifCond .eq 7, 3) := by decide +kernel
theorem dX2_chooseFor_224 : decode cX2_chooseFor 224 = .ok (.iload 10, 2) := by decide +kernel
theorem dX2_chooseFor_226 : decode cX2_chooseFor 226 = .ok (.istore 6, 2) := by decide +kernel
theorem dX2_chooseFor_228 : decode cX2_chooseFor 228 = .ok (.iinc 10 1, 3) := by decide +kernel
theorem dX2_chooseFor_231 : decode cX2_chooseFor 231 = .ok (.goto (-117), 3) := by decide +kernel
theorem dX2_chooseFor_234 : decode cX2_chooseFor 234 = .ok (.iinc 7 1, 3) := by decide +kernel
theorem dX2_chooseFor_237 : decode cX2_chooseFor 237 = .ok (.goto (-149), 3) := by decide +kernel
theorem dX2_chooseFor_240 : decode cX2_chooseFor 240 = .ok (.aload_n 0, 1) := by decide +kernel
theorem dX2_chooseFor_241 : decode cX2_chooseFor 241 = .ok (.aload_n 0, 1) := by decide +kernel
theorem dX2_chooseFor_242 : decode cX2_chooseFor 242 = .ok (.iload 6, 2) := by decide +kernel
theorem dX2_chooseFor_244 : decode cX2_chooseFor 244 = .ok (.iload 5, 2) := by decide +kernel
theorem dX2_chooseFor_246 : decode cX2_chooseFor 246 = .ok (.invokevirtual 76, 3) := by decide +kernel
theorem dX2_chooseFor_249 : decode cX2_chooseFor 249 = .ok (.putfield 37, 3) := by decide +kernel
theorem dX2_chooseFor_252 : decode cX2_chooseFor 252 = .ok (.aload_n 0, 1) := by decide +kernel
theorem dX2_chooseFor_253 : decode cX2_chooseFor 253 = .ok (.aload_n 0, 1) := by decide +kernel
theorem dX2_chooseFor_254 : decode cX2_chooseFor 254 = .ok (.getfield 31, 3) := by decide +kernel
theorem dX2_chooseFor_257 : decode cX2_chooseFor 257 = .ok (.iload 6, 2) := by decide +kernel
theorem dX2_chooseFor_259 : decode cX2_chooseFor 259 = .ok (.iaload, 1) := by decide +kernel
theorem dX2_chooseFor_260 : decode cX2_chooseFor 260 = .ok (.putfield 40, 3) := by decide +kernel
theorem dX2_chooseFor_263 : decode cX2_chooseFor 263 = .ok (.iload 6, 2) := by decide +kernel
theorem dX2_chooseFor_265 : decode cX2_chooseFor 265 = .ok (.ifCond .eq 7, 3) := by decide +kernel
theorem dX2_chooseFor_268 : decode cX2_chooseFor 268 = .ok (.iconst 1, 1) := by decide +kernel
theorem dX2_chooseFor_269 : decode cX2_chooseFor 269 = .ok (.goto 4, 3) := by decide +kernel
theorem dX2_chooseFor_272 : decode cX2_chooseFor 272 = .ok (.iconst 0, 1) := by decide +kernel
theorem dX2_chooseFor_273 : decode cX2_chooseFor 273 = .ok (.ireturn, 1) := by decide +kernel
theorem dX2_isCheaper_0 : decode cX2_isCheaper 0 = .ok (.iload_n 1, 1) := by decide +kernel
theorem dX2_isCheaper_1 : decode cX2_isCheaper 1 = .ok (.invokestatic 80, 3) := by decide +kernel
theorem dX2_isCheaper_4 : decode cX2_isCheaper 4 = .ok (.iload_n 2, 1) := by decide +kernel
theorem dX2_isCheaper_5 : decode cX2_isCheaper 5 = .ok (.invokestatic 80, 3) := by decide +kernel
theorem dX2_isCheaper_8 : decode cX2_isCheaper 8 = .ok (.if_icmp .ge 7, 3) := by decide +kernel
theorem dX2_isCheaper_11 : decode cX2_isCheaper 11 = .ok (.iconst 1, 1) := by decide +kernel
theorem dX2_isCheaper_12 : decode cX2_isCheaper 12 = .ok (.goto 4, 3) := by decide +kernel
theorem dX2_isCheaper_15 : decode cX2_isCheaper 15 = .ok (.iconst 0, 1) := by decide +kernel
theorem dX2_isCheaper_16 : decode cX2_isCheaper 16 = .ok (.istore_n 3, 1) := by decide +kernel
theorem dX2_isCheaper_17 : decode cX2_isCheaper 17 = .ok (.aload_n 0, 1) := by decide +kernel
theorem dX2_isCheaper_18 : decode cX2_isCheaper 18 = .ok (.getfield 31, 3) := by decide +kernel
theorem dX2_isCheaper_21 : decode cX2_isCheaper 21 = .ok (.iload_n 1, 1) := by decide +kernel
theorem dX2_isCheaper_22 : decode cX2_isCheaper 22 = .ok (.iaload, 1) := by decide +kernel
theorem dX2_isCheaper_23 : decode cX2_isCheaper 23 = .ok (.aload_n 0, 1) := by decide +kernel
theorem dX2_isCheaper_24 : decode cX2_isCheaper 24 = .ok (.getfield 31, 3) := by decide +kernel
theorem dX2_isCheaper_27 : decode cX2_isCheaper 27 = .ok (.iload_n 2, 1) := by decide +kernel
theorem dX2_isCheaper_28 : decode cX2_isCheaper 28 = .ok (.iaload, 1) := by decide +kernel
theorem dX2_isCheaper_29 : decode cX2_isCheaper 29 = .ok (.if_icmp .lt 22, 3) := by decide +kernel
theorem dX2_isCheaper_32 : decode cX2_isCheaper 32 = .ok (.aload_n 0, 1) := by decide +kernel
theorem dX2_isCheaper_33 : decode cX2_isCheaper 33 = .ok (.getfield 31, 3) := by decide +kernel
theorem dX2_isCheaper_36 : decode cX2_isCheaper 36 = .ok (.iload_n 1, 1) := by decide +kernel
theorem dX2_isCheaper_37 : decode cX2_isCheaper 37 = .ok (.iaload, 1) := by decide +kernel
theorem dX2_isCheaper_38 : decode cX2_isCheaper 38 = .ok (.aload_n 0, 1) := by decide +kernel
theorem dX2_isCheaper_39 : decode cX2_isCheaper 39 = .ok (.getfield 31, 3) := by decide +kernel
theorem dX2_isCheaper_42 : decode cX2_isCheaper 42 = .ok (.iload_n 2, 1) := by decide +kernel
theorem dX2_isCheaper_43 : decode cX2_isCheaper 43 = .ok (.iaload, 1) := by decide +kernel
theorem dX2_isCheaper_44 : decode cX2_isCheaper 44 = .ok (.if_icmp .ne 11, 3) := by decide +kernel
theorem dX2_isCheaper_47 : decode cX2_isCheaper 47 = .ok (.iload_n 3, 1) := by decide +kernel
theorem dX2_isCheaper_48 : decode cX2_isCheaper 48 = .ok (.ifCond .eq 7, 3) := by decide +kernel
theorem dX2_isCheaper_51 : decode cX2_isCheaper 51 = .ok (.iconst 1, 1) := by decide +kernel
theorem dX2_isCheaper_52 : decode cX2_isCheaper 52 = .ok (.goto 4, 3) := by decide +kernel
theorem dX2_isCheaper_55 : decode cX2_isCheaper 55 = .ok (.iconst 0, 1) := by decide +kernel
theorem dX2_isCheaper_56 : decode cX2_isCheaper 56 = .ok (.ireturn, 1) := by decide +kernel
theorem dX2_endsOf_0 : decode cX2_endsOf 0 = .ok (.iconst 0, 1) := by decide +kernel
theorem dX2_endsOf_1 : decode cX2_endsOf 1 = .ok (.istore_n 3, 1) := by decide +kernel
theorem dX2_endsOf_2 : decode cX2_endsOf 2 = .ok (.iconst 0, 1) := by decide +kernel
theorem dX2_endsOf_3 : decode cX2_endsOf 3 = .ok (.istore 4, 2) := by decide +kernel
theorem dX2_endsOf_5 : decode cX2_endsOf 5 = .ok (.iload 4, 2) := by decide +kernel
theorem dX2_endsOf_7 : decode cX2_endsOf 7 = .ok (.iload_n 2, 1) := by decide +kernel
theorem dX2_endsOf_8 : decode cX2_endsOf 8 = .ok (.if_icmp .ge 37, 3) := by decide +kernel
theorem dX2_endsOf_11 : decode cX2_endsOf 11 = .ok (.iload 4, 2) := by decide +kernel
theorem dX2_endsOf_13 : decode cX2_endsOf 13 = .ok (.bipush 10, 2) := by decide +kernel
theorem dX2_endsOf_15 : decode cX2_endsOf 15 = .ok (.if_icmp .ge 30, 3) := by decide +kernel
theorem dX2_endsOf_18 : decode cX2_endsOf 18 = .ok (.iload_n 1, 1) := by decide +kernel
theorem dX2_endsOf_19 : decode cX2_endsOf 19 = .ok (.iload 4, 2) := by decide +kernel
theorem dX2_endsOf_21 : decode cX2_endsOf 21 = .ok (.invokestatic 56, 3) := by decide +kernel
theorem dX2_endsOf_24 : decode cX2_endsOf 24 = .ok (.ifCond .eq 15, 3) := by decide +kernel
theorem dX2_endsOf_27 : decode cX2_endsOf 27 = .ok (.iload_n 3, 1) := by decide +kernel
theorem dX2_endsOf_28 : decode cX2_endsOf 28 = .ok (.iconst 1, 1) := by decide +kernel
theorem dX2_endsOf_29 : decode cX2_endsOf 29 = .ok (.aload_n 0, 1) := by decide +kernel
theorem dX2_endsOf_30 : decode cX2_endsOf 30 = .ok (.getfield 28, 3) := by decide +kernel
theorem dX2_endsOf_33 : decode cX2_endsOf 33 = .ok (.iload 4, 2) := by decide +kernel
theorem dX2_endsOf_35 : decode cX2_endsOf 35 = .ok (.iaload, 1) := by decide +kernel
theorem dX2_endsOf_36 : decode cX2_endsOf 36 = .ok (.ishl, 1) := by decide +kernel
theorem dX2_endsOf_37 : decode cX2_endsOf 37 = .ok (.ior, 1) := by decide +kernel
theorem dX2_endsOf_38 : decode cX2_endsOf 38 = .ok (.istore_n 3, 1) := by decide +kernel
theorem dX2_endsOf_39 : decode cX2_endsOf 39 = .ok (.iinc 4 1, 3) := by decide +kernel
theorem dX2_endsOf_42 : decode cX2_endsOf 42 = .ok (.goto (-37), 3) := by decide +kernel
theorem dX2_endsOf_45 : decode cX2_endsOf 45 = .ok (.iload_n 3, 1) := by decide +kernel
theorem dX2_endsOf_46 : decode cX2_endsOf 46 = .ok (.ireturn, 1) := by decide +kernel
theorem dX2_planWinter_0 : decode cX2_planWinter 0 = .ok (.iconst 0, 1) := by decide +kernel
theorem dX2_planWinter_1 : decode cX2_planWinter 1 = .ok (.istore_n 3, 1) := by decide +kernel
theorem dX2_planWinter_2 : decode cX2_planWinter 2 = .ok (.iconst 0, 1) := by decide +kernel
theorem dX2_planWinter_3 : decode cX2_planWinter 3 = .ok (.istore 4, 2) := by decide +kernel
theorem dX2_planWinter_5 : decode cX2_planWinter 5 = .ok (.iload 4, 2) := by decide +kernel
theorem dX2_planWinter_7 : decode cX2_planWinter 7 = .ok (.bipush 10, 2) := by decide +kernel
theorem dX2_planWinter_9 : decode cX2_planWinter 9 = .ok (.if_icmp .ge 32, 3) := by decide +kernel
theorem dX2_planWinter_12 : decode cX2_planWinter 12 = .ok (.aload_n 0, 1) := by decide +kernel
theorem dX2_planWinter_13 : decode cX2_planWinter 13 = .ok (.getfield 9, 3) := by decide +kernel
theorem dX2_planWinter_16 : decode cX2_planWinter 16 = .ok (.iload 4, 2) := by decide +kernel
theorem dX2_planWinter_18 : decode cX2_planWinter 18 = .ok (.invokestatic 56, 3) := by decide +kernel
theorem dX2_planWinter_21 : decode cX2_planWinter 21 = .ok (.ifCond .eq 14, 3) := by decide +kernel
theorem dX2_planWinter_24 : decode cX2_planWinter 24 = .ok (.aload_n 0, 1) := by decide +kernel
theorem dX2_planWinter_25 : decode cX2_planWinter 25 = .ok (.getfield 28, 3) := by decide +kernel
theorem dX2_planWinter_28 : decode cX2_planWinter 28 = .ok (.iload_n 3, 1) := by decide +kernel
theorem dX2_planWinter_29 : decode cX2_planWinter 29 = .ok (.iload 4, 2) := by decide +kernel
theorem dX2_planWinter_31 : decode cX2_planWinter 31 = .ok (.iastore, 1) := by decide +kernel
theorem dX2_planWinter_32 : decode cX2_planWinter 32 = .ok (.iinc 3 1, 3) := by decide +kernel
theorem dX2_planWinter_35 : decode cX2_planWinter 35 = .ok (.iinc 4 1, 3) := by decide +kernel
theorem dX2_planWinter_38 : decode cX2_planWinter 38 = .ok (.goto (-33), 3) := by decide +kernel
theorem dX2_planWinter_41 : decode cX2_planWinter 41 = .ok (.aload_n 0, 1) := by decide +kernel
theorem dX2_planWinter_42 : decode cX2_planWinter 42 = .ok (.iconst 0, 1) := by decide +kernel
theorem dX2_planWinter_43 : decode cX2_planWinter 43 = .ok (.putfield 49, 3) := by decide +kernel
theorem dX2_planWinter_46 : decode cX2_planWinter 46 = .ok (.aload_n 0, 1) := by decide +kernel
theorem dX2_planWinter_47 : decode cX2_planWinter 47 = .ok (.iconst 0, 1) := by decide +kernel
theorem dX2_planWinter_48 : decode cX2_planWinter 48 = .ok (.putfield 46, 3) := by decide +kernel
theorem dX2_planWinter_51 : decode cX2_planWinter 51 = .ok (.iconst 0, 1) := by decide +kernel
theorem dX2_planWinter_52 : decode cX2_planWinter 52 = .ok (.istore 4, 2) := by decide +kernel
theorem dX2_planWinter_54 : decode cX2_planWinter 54 = .ok (.iconst 0, 1) := by decide +kernel
theorem dX2_planWinter_55 : decode cX2_planWinter 55 = .ok (.istore 5, 2) := by decide +kernel
theorem dX2_planWinter_57 : decode cX2_planWinter 57 = .ok (.iload 5, 2) := by decide +kernel
theorem dX2_planWinter_59 : decode cX2_planWinter 59 = .ok (.iload_n 3, 1) := by decide +kernel
theorem dX2_planWinter_60 : decode cX2_planWinter 60 = .ok (.if_icmp .ge 218, 3) := by decide +kernel
theorem dX2_planWinter_63 : decode cX2_planWinter 63 = .ok (.iload 5, 2) := by decide +kernel
theorem dX2_planWinter_65 : decode cX2_planWinter 65 = .ok (.aload_n 2, 1) := by decide +kernel
theorem dX2_planWinter_66 : decode cX2_planWinter 66 = .ok (.arraylength, 1) := by decide +kernel
theorem dX2_planWinter_67 : decode cX2_planWinter 67 = .ok (.if_icmp .ge 211, 3) := by decide +kernel
theorem dX2_planWinter_70 : decode cX2_planWinter 70 = .ok (.iconst 1, 1) := by decide +kernel
theorem dX2_planWinter_71 : decode cX2_planWinter 71 = .ok (.iload 5, 2) := by decide +kernel
theorem dX2_planWinter_73 : decode cX2_planWinter 73 = .ok (.ishl, 1) := by decide +kernel
theorem dX2_planWinter_74 : decode cX2_planWinter 74 = .ok (.istore 6, 2) := by decide +kernel
theorem dX2_planWinter_76 : decode cX2_planWinter 76 = .ok (.aload_n 0, 1) := by decide +kernel
theorem dX2_planWinter_77 : decode cX2_planWinter 77 = .ok (.getfield 28, 3) := by decide +kernel
theorem dX2_planWinter_80 : decode cX2_planWinter 80 = .ok (.iload 5, 2) := by decide +kernel
theorem dX2_planWinter_82 : decode cX2_planWinter 82 = .ok (.iaload, 1) := by decide +kernel
theorem dX2_planWinter_83 : decode cX2_planWinter 83 = .ok (.istore 7, 2) := by decide +kernel
theorem dX2_planWinter_85 : decode cX2_planWinter 85 = .ok (.iload 6, 2) := by decide +kernel
theorem dX2_planWinter_87 : decode cX2_planWinter 87 = .ok (.istore 8, 2) := by decide +kernel
theorem dX2_planWinter_89 : decode cX2_planWinter 89 = .ok (.iload 8, 2) := by decide +kernel
theorem dX2_planWinter_91 : decode cX2_planWinter 91 = .ok (.iconst 2, 1) := by decide +kernel
theorem dX2_planWinter_92 : decode cX2_planWinter 92 = .ok (.iload 6, 2) := by decide +kernel
theorem dX2_planWinter_94 : decode cX2_planWinter 94 = .ok (.imul, 1) := by decide +kernel
theorem dX2_planWinter_95 : decode cX2_planWinter 95 = .ok (.if_icmp .ge 177, 3) := by decide +kernel
theorem dX2_planWinter_98 : decode cX2_planWinter 98 = .ok (.aload_n 0, 1) := by decide +kernel
theorem dX2_planWinter_99 : decode cX2_planWinter 99 = .ok (.getfield 31, 3) := by decide +kernel
theorem dX2_planWinter_102 : decode cX2_planWinter 102 = .ok (.iload 8, 2) := by decide +kernel
theorem dX2_planWinter_104 : decode cX2_planWinter 104 = .ok (.iload 8, 2) := by decide +kernel
theorem dX2_planWinter_106 : decode cX2_planWinter 106 = .ok (.iload 6, 2) := by decide +kernel
theorem dX2_planWinter_108 : decode cX2_planWinter 108 = .ok (.if_icmp .ne 7, 3) := by decide +kernel
theorem dX2_planWinter_111 : decode cX2_planWinter 111 = .ok (.iconst 0, 1) := by decide +kernel
theorem dX2_planWinter_112 : decode cX2_planWinter 112 = .ok (.goto 13, 3) := by decide +kernel
theorem dX2_planWinter_115 : decode cX2_planWinter 115 = .ok (.aload_n 0, 1) := by decide +kernel
theorem dX2_planWinter_116 : decode cX2_planWinter 116 = .ok (.getfield 31, 3) := by decide +kernel
theorem dX2_planWinter_119 : decode cX2_planWinter 119 = .ok (.iload 8, 2) := by decide +kernel
theorem dX2_planWinter_121 : decode cX2_planWinter 121 = .ok (.iload 6, 2) := by decide +kernel
theorem dX2_planWinter_123 : decode cX2_planWinter 123 = .ok (.isub, 1) := by decide +kernel
theorem dX2_planWinter_124 : decode cX2_planWinter 124 = .ok (.iaload, 1) := by decide +kernel
theorem dX2_planWinter_125 : decode cX2_planWinter 125 = .ok (.aload_n 2, 1) := by decide +kernel
theorem dX2_planWinter_126 : decode cX2_planWinter 126 = .ok (.iload 5, 2) := by decide +kernel
theorem dX2_planWinter_128 : decode cX2_planWinter 128 = .ok (.iaload, 1) := by decide +kernel
theorem dX2_planWinter_129 : decode cX2_planWinter 129 = .ok (.aload_n 0, 1) := by decide +kernel
theorem dX2_planWinter_130 : decode cX2_planWinter 130 = .ok (.getfield 19, 3) := by decide +kernel
theorem dX2_planWinter_133 : decode cX2_planWinter 133 = .ok (.iload 7, 2) := by decide +kernel
theorem dX2_planWinter_135 : decode cX2_planWinter 135 = .ok (.iaload, 1) := by decide +kernel
theorem dX2_planWinter_136 : decode cX2_planWinter 136 = .ok (.imul, 1) := by decide +kernel
theorem dX2_planWinter_137 : decode cX2_planWinter 137 = .ok (.iadd, 1) := by decide +kernel
theorem dX2_planWinter_138 : decode cX2_planWinter 138 = .ok (.iastore, 1) := by decide +kernel
theorem dX2_planWinter_139 : decode cX2_planWinter 139 = .ok (.aload_n 0, 1) := by decide +kernel
theorem dX2_planWinter_140 : decode cX2_planWinter 140 = .ok (.getfield 34, 3) := by decide +kernel
theorem dX2_planWinter_143 : decode cX2_planWinter 143 = .ok (.iload 8, 2) := by decide +kernel
theorem dX2_planWinter_145 : decode cX2_planWinter 145 = .ok (.iload 8, 2) := by decide +kernel
theorem dX2_planWinter_147 : decode cX2_planWinter 147 = .ok (.iload 6, 2) := by decide +kernel
theorem dX2_planWinter_149 : decode cX2_planWinter 149 = .ok (.if_icmp .ne 7, 3) := by decide +kernel
theorem dX2_planWinter_152 : decode cX2_planWinter 152 = .ok (.iconst 0, 1) := by decide +kernel
theorem dX2_planWinter_153 : decode cX2_planWinter 153 = .ok (.goto 13, 3) := by decide +kernel
theorem dX2_planWinter_156 : decode cX2_planWinter 156 = .ok (.aload_n 0, 1) := by decide +kernel
theorem dX2_planWinter_157 : decode cX2_planWinter 157 = .ok (.getfield 34, 3) := by decide +kernel
theorem dX2_planWinter_160 : decode cX2_planWinter 160 = .ok (.iload 8, 2) := by decide +kernel
theorem dX2_planWinter_162 : decode cX2_planWinter 162 = .ok (.iload 6, 2) := by decide +kernel
theorem dX2_planWinter_164 : decode cX2_planWinter 164 = .ok (.isub, 1) := by decide +kernel
theorem dX2_planWinter_165 : decode cX2_planWinter 165 = .ok (.iaload, 1) := by decide +kernel
theorem dX2_planWinter_166 : decode cX2_planWinter 166 = .ok (.aload_n 0, 1) := by decide +kernel
theorem dX2_planWinter_167 : decode cX2_planWinter 167 = .ok (.getfield 22, 3) := by decide +kernel
theorem dX2_planWinter_170 : decode cX2_planWinter 170 = .ok (.iload 7, 2) := by decide +kernel
theorem dX2_planWinter_172 : decode cX2_planWinter 172 = .ok (.iaload, 1) := by decide +kernel
theorem dX2_planWinter_173 : decode cX2_planWinter 173 = .ok (.iadd, 1) := by decide +kernel
theorem dX2_planWinter_174 : decode cX2_planWinter 174 = .ok (.iastore, 1) := by decide +kernel
theorem dX2_planWinter_175 : decode cX2_planWinter 175 = .ok (.aload_n 0, 1) := by decide +kernel
theorem dX2_planWinter_176 : decode cX2_planWinter 176 = .ok (.getfield 31, 3) := by decide +kernel
theorem dX2_planWinter_179 : decode cX2_planWinter 179 = .ok (.iload 8, 2) := by decide +kernel
theorem dX2_planWinter_181 : decode cX2_planWinter 181 = .ok (.iaload, 1) := by decide +kernel
theorem dX2_planWinter_182 : decode cX2_planWinter 182 = .ok (.aload_n 0, 1) := by decide +kernel
theorem dX2_planWinter_183 : decode cX2_planWinter 183 = .ok (.getfield 49, 3) := by decide +kernel
theorem dX2_planWinter_186 : decode cX2_planWinter 186 = .ok (.if_icmp .gt 31, 3) := by decide +kernel
theorem dX2_planWinter_189 : decode cX2_planWinter 189 = .ok (.aload_n 0, 1) := by decide +kernel
theorem dX2_planWinter_190 : decode cX2_planWinter 190 = .ok (.getfield 31, 3) := by decide +kernel
theorem dX2_planWinter_193 : decode cX2_planWinter 193 = .ok (.iload 8, 2) := by decide +kernel
theorem dX2_planWinter_195 : decode cX2_planWinter 195 = .ok (.iaload, 1) := by decide +kernel
theorem dX2_planWinter_196 : decode cX2_planWinter 196 = .ok (.aload_n 0, 1) := by decide +kernel
theorem dX2_planWinter_197 : decode cX2_planWinter 197 = .ok (.getfield 49, 3) := by decide +kernel
theorem dX2_planWinter_200 : decode cX2_planWinter 200 = .ok (.if_icmp .ne 21, 3) := by decide +kernel
theorem dX2_planWinter_203 : decode cX2_planWinter 203 = .ok (.aload_n 0, 1) := by decide +kernel
theorem dX2_planWinter_204 : decode cX2_planWinter 204 = .ok (.getfield 34, 3) := by decide +kernel
theorem dX2_planWinter_207 : decode cX2_planWinter 207 = .ok (.iload 8, 2) := by decide +kernel
theorem dX2_planWinter_209 : decode cX2_planWinter 209 = .ok (.iaload, 1) := by decide +kernel
theorem dX2_planWinter_210 : decode cX2_planWinter 210 = .ok (.aload_n 0, 1) := by decide +kernel
theorem dX2_planWinter_211 : decode cX2_planWinter 211 = .ok (.getfield 46, 3) := by decide +kernel
theorem dX2_planWinter_214 : decode cX2_planWinter 214 = .ok (.if_icmp .ge 7, 3) := by decide +kernel
theorem dX2_planWinter_217 : decode cX2_planWinter 217 = .ok (.iconst 1, 1) := by decide +kernel
theorem dX2_planWinter_218 : decode cX2_planWinter 218 = .ok (.goto 4, 3) := by decide +kernel
theorem dX2_planWinter_221 : decode cX2_planWinter 221 = .ok (.iconst 0, 1) := by decide +kernel
theorem dX2_planWinter_222 : decode cX2_planWinter 222 = .ok (.istore 9, 2) := by decide +kernel
theorem dX2_planWinter_224 : decode cX2_planWinter 224 = .ok (.aload_n 0, 1) := by decide +kernel
theorem dX2_planWinter_225 : decode cX2_planWinter 225 = .ok (.getfield 34, 3) := by decide +kernel
theorem dX2_planWinter_228 : decode cX2_planWinter 228 = .ok (.iload 8, 2) := by decide +kernel
theorem dX2_planWinter_230 : decode cX2_planWinter 230 = .ok (.iaload, 1) := by decide +kernel
theorem dX2_planWinter_231 : decode cX2_planWinter 231 = .ok (.iload_n 1, 1) := by decide +kernel
theorem dX2_planWinter_232 : decode cX2_planWinter 232 = .ok (.if_icmp .gt 34, 3) := by decide +kernel
theorem dX2_planWinter_235 : decode cX2_planWinter 235 = .ok (.iload 9, 2) := by decide +kernel
theorem dX2_planWinter_237 : decode cX2_planWinter 237 = .ok (.ifCond .eq 29, 3) := by decide +kernel
theorem dX2_planWinter_240 : decode cX2_planWinter 240 = .ok (.iload 8, 2) := by decide +kernel
theorem dX2_planWinter_242 : decode cX2_planWinter 242 = .ok (.istore 4, 2) := by decide +kernel
theorem dX2_planWinter_244 : decode cX2_planWinter 244 = .ok (.aload_n 0, 1) := by decide +kernel
theorem dX2_planWinter_245 : decode cX2_planWinter 245 = .ok (.aload_n 0, 1) := by decide +kernel
theorem dX2_planWinter_246 : decode cX2_planWinter 246 = .ok (.getfield 31, 3) := by decide +kernel
theorem dX2_planWinter_249 : decode cX2_planWinter 249 = .ok (.iload 8, 2) := by decide +kernel
theorem dX2_planWinter_251 : decode cX2_planWinter 251 = .ok (.iaload, 1) := by decide +kernel
theorem dX2_planWinter_252 : decode cX2_planWinter 252 = .ok (.putfield 49, 3) := by decide +kernel
theorem dX2_planWinter_255 : decode cX2_planWinter 255 = .ok (.aload_n 0, 1) := by decide +kernel
theorem dX2_planWinter_256 : decode cX2_planWinter 256 = .ok (.aload_n 0, 1) := by decide +kernel
theorem dX2_planWinter_257 : decode cX2_planWinter 257 = .ok (.getfield 34, 3) := by decide +kernel
theorem dX2_planWinter_260 : decode cX2_planWinter 260 = .ok (.iload 8, 2) := by decide +kernel
theorem dX2_planWinter_262 : decode cX2_planWinter 262 = .ok (.iaload, 1) := by decide +kernel
theorem dX2_planWinter_263 : decode cX2_planWinter 263 = .ok (.putfield 46, 3) := by decide +kernel
theorem dX2_planWinter_266 : decode cX2_planWinter 266 = .ok (.iinc 8 1, 3) := by decide +kernel
theorem dX2_planWinter_269 : decode cX2_planWinter 269 = .ok (.goto (-180), 3) := by decide +kernel
theorem dX2_planWinter_272 : decode cX2_planWinter 272 = .ok (.iinc 5 1, 3) := by decide +kernel
theorem dX2_planWinter_275 : decode cX2_planWinter 275 = .ok (.goto (-218), 3) := by decide +kernel
theorem dX2_planWinter_278 : decode cX2_planWinter 278 = .ok (.aload_n 0, 1) := by decide +kernel
theorem dX2_planWinter_279 : decode cX2_planWinter 279 = .ok (.aload_n 0, 1) := by decide +kernel
theorem dX2_planWinter_280 : decode cX2_planWinter 280 = .ok (.iload 4, 2) := by decide +kernel
theorem dX2_planWinter_282 : decode cX2_planWinter 282 = .ok (.iload_n 3, 1) := by decide +kernel
theorem dX2_planWinter_283 : decode cX2_planWinter 283 = .ok (.invokevirtual 76, 3) := by decide +kernel
theorem dX2_planWinter_286 : decode cX2_planWinter 286 = .ok (.putfield 43, 3) := by decide +kernel
theorem dX2_planWinter_289 : decode cX2_planWinter 289 = .ok (.return_, 1) := by decide +kernel
theorem dX2_leftOf_0 : decode cX2_leftOf 0 = .ok (.iconst 0, 1) := by decide +kernel
theorem dX2_leftOf_1 : decode cX2_leftOf 1 = .ok (.istore 4, 2) := by decide +kernel
theorem dX2_leftOf_3 : decode cX2_leftOf 3 = .ok (.iconst 0, 1) := by decide +kernel
theorem dX2_leftOf_4 : decode cX2_leftOf 4 = .ok (.istore 5, 2) := by decide +kernel
theorem dX2_leftOf_6 : decode cX2_leftOf 6 = .ok (.iload 5, 2) := by decide +kernel
theorem dX2_leftOf_8 : decode cX2_leftOf 8 = .ok (.bipush 10, 2) := by decide +kernel
theorem dX2_leftOf_10 : decode cX2_leftOf 10 = .ok (.if_icmp .ge 77, 3) := by decide +kernel
theorem dX2_leftOf_13 : decode cX2_leftOf 13 = .ok (.aload_n 0, 1) := by decide +kernel
theorem dX2_leftOf_14 : decode cX2_leftOf 14 = .ok (.getfield 15, 3) := by decide +kernel
theorem dX2_leftOf_17 : decode cX2_leftOf 17 = .ok (.iload 5, 2) := by decide +kernel
theorem dX2_leftOf_19 : decode cX2_leftOf 19 = .ok (.iaload, 1) := by decide +kernel
theorem dX2_leftOf_20 : decode cX2_leftOf 20 = .ok (.aload_n 0, 1) := by decide +kernel
theorem dX2_leftOf_21 : decode cX2_leftOf 21 = .ok (.getfield 15, 3) := by decide +kernel
theorem dX2_leftOf_24 : decode cX2_leftOf 24 = .ok (.iload 5, 2) := by decide +kernel
theorem dX2_leftOf_26 : decode cX2_leftOf 26 = .ok (.iaload, 1) := by decide +kernel
theorem dX2_leftOf_27 : decode cX2_leftOf 27 = .ok (.ineg, 1) := by decide +kernel
theorem dX2_leftOf_28 : decode cX2_leftOf 28 = .ok (.iand, 1) := by decide +kernel
theorem dX2_leftOf_29 : decode cX2_leftOf 29 = .ok (.istore 6, 2) := by decide +kernel
theorem dX2_leftOf_31 : decode cX2_leftOf 31 = .ok (.iload_n 3, 1) := by decide +kernel
theorem dX2_leftOf_32 : decode cX2_leftOf 32 = .ok (.ifCond .ge 18, 3) := by decide +kernel
theorem dX2_leftOf_35 : decode cX2_leftOf 35 = .ok (.iload 6, 2) := by decide +kernel
theorem dX2_leftOf_37 : decode cX2_leftOf 37 = .ok (.iload_n 2, 1) := by decide +kernel
theorem dX2_leftOf_38 : decode cX2_leftOf 38 = .ok (.iand, 1) := by decide +kernel
theorem dX2_leftOf_39 : decode cX2_leftOf 39 = .ok (.ifCond .ne 7, 3) := by decide +kernel
theorem dX2_leftOf_42 : decode cX2_leftOf 42 = .ok (.iconst 1, 1) := by decide +kernel
theorem dX2_leftOf_43 : decode cX2_leftOf 43 = .ok (.goto 13, 3) := by decide +kernel
theorem dX2_leftOf_46 : decode cX2_leftOf 46 = .ok (.iconst 0, 1) := by decide +kernel
theorem dX2_leftOf_47 : decode cX2_leftOf 47 = .ok (.goto 9, 3) := by decide +kernel
theorem dX2_leftOf_50 : decode cX2_leftOf 50 = .ok (.iload 6, 2) := by decide +kernel
theorem dX2_leftOf_52 : decode cX2_leftOf 52 = .ok (.iload_n 3, 1) := by decide +kernel
theorem dX2_leftOf_53 : decode cX2_leftOf 53 = .ok (.invokestatic 56, 3) := by decide +kernel
theorem dX2_leftOf_56 : decode cX2_leftOf 56 = .ok (.istore 7, 2) := by decide +kernel
theorem dX2_leftOf_58 : decode cX2_leftOf 58 = .ok (.iload_n 1, 1) := by decide +kernel
theorem dX2_leftOf_59 : decode cX2_leftOf 59 = .ok (.iload 5, 2) := by decide +kernel
theorem dX2_leftOf_61 : decode cX2_leftOf 61 = .ok (.invokestatic 56, 3) := by decide +kernel
theorem dX2_leftOf_64 : decode cX2_leftOf 64 = .ok (.ifCond .eq 17, 3) := by decide +kernel
theorem dX2_leftOf_67 : decode cX2_leftOf 67 = .ok (.iload 7, 2) := by decide +kernel
theorem dX2_leftOf_69 : decode cX2_leftOf 69 = .ok (.ifCond .eq 12, 3) := by decide +kernel
theorem dX2_leftOf_72 : decode cX2_leftOf 72 = .ok (.iload 4, 2) := by decide +kernel
theorem dX2_leftOf_74 : decode cX2_leftOf 74 = .ok (.iconst 1, 1) := by decide +kernel
theorem dX2_leftOf_75 : decode cX2_leftOf 75 = .ok (.iload 5, 2) := by decide +kernel
theorem dX2_leftOf_77 : decode cX2_leftOf 77 = .ok (.ishl, 1) := by decide +kernel
theorem dX2_leftOf_78 : decode cX2_leftOf 78 = .ok (.ior, 1) := by decide +kernel
theorem dX2_leftOf_79 : decode cX2_leftOf 79 = .ok (.istore 4, 2) := by decide +kernel
theorem dX2_leftOf_81 : decode cX2_leftOf 81 = .ok (.iinc 5 1, 3) := by decide +kernel
theorem dX2_leftOf_84 : decode cX2_leftOf 84 = .ok (.goto (-78), 3) := by decide +kernel
theorem dX2_leftOf_87 : decode cX2_leftOf 87 = .ok (.iload 4, 2) := by decide +kernel
theorem dX2_leftOf_89 : decode cX2_leftOf 89 = .ok (.ireturn, 1) := by decide +kernel
theorem dX2_nextToSniff_0 : decode cX2_nextToSniff 0 = .ok (.iload_n 1, 1) := by decide +kernel
theorem dX2_nextToSniff_1 : decode cX2_nextToSniff 1 = .ok (.invokestatic 80, 3) := by decide +kernel
theorem dX2_nextToSniff_4 : decode cX2_nextToSniff 4 = .ok (.istore_n 2, 1) := by decide +kernel
theorem dX2_nextToSniff_5 : decode cX2_nextToSniff 5 = .ok (.bipush (-2), 2) := by decide +kernel
theorem dX2_nextToSniff_7 : decode cX2_nextToSniff 7 = .ok (.istore_n 3, 1) := by decide +kernel
theorem dX2_nextToSniff_8 : decode cX2_nextToSniff 8 = .ok (.iload_n 2, 1) := by decide +kernel
theorem dX2_nextToSniff_9 : decode cX2_nextToSniff 9 = .ok (.istore 4, 2) := by decide +kernel
theorem dX2_nextToSniff_11 : decode cX2_nextToSniff 11 = .ok (.iconst 0, 1) := by decide +kernel
theorem dX2_nextToSniff_12 : decode cX2_nextToSniff 12 = .ok (.istore 5, 2) := by decide +kernel
theorem dX2_nextToSniff_14 : decode cX2_nextToSniff 14 = .ok (.iload 5, 2) := by decide +kernel
theorem dX2_nextToSniff_16 : decode cX2_nextToSniff 16 = .ok (.bipush 10, 2) := by decide +kernel
theorem dX2_nextToSniff_18 : decode cX2_nextToSniff 18 = .ok (.if_icmp .ge 49, 3) := by decide +kernel
theorem dX2_nextToSniff_21 : decode cX2_nextToSniff 21 = .ok (.aload_n 0, 1) := by decide +kernel
theorem dX2_nextToSniff_22 : decode cX2_nextToSniff 22 = .ok (.iload_n 1, 1) := by decide +kernel
theorem dX2_nextToSniff_23 : decode cX2_nextToSniff 23 = .ok (.sipush 1023, 3) := by decide +kernel
theorem dX2_nextToSniff_26 : decode cX2_nextToSniff 26 = .ok (.iload 5, 2) := by decide +kernel
theorem dX2_nextToSniff_28 : decode cX2_nextToSniff 28 = .ok (.invokevirtual 86, 3) := by decide +kernel
theorem dX2_nextToSniff_31 : decode cX2_nextToSniff 31 = .ok (.invokestatic 80, 3) := by decide +kernel
theorem dX2_nextToSniff_34 : decode cX2_nextToSniff 34 = .ok (.istore 6, 2) := by decide +kernel
theorem dX2_nextToSniff_36 : decode cX2_nextToSniff 36 = .ok (.iload 6, 2) := by decide +kernel
theorem dX2_nextToSniff_38 : decode cX2_nextToSniff 38 = .ok (.iload_n 2, 1) := by decide +kernel
theorem dX2_nextToSniff_39 : decode cX2_nextToSniff 39 = .ok (.iload 6, 2) := by decide +kernel
theorem dX2_nextToSniff_41 : decode cX2_nextToSniff 41 = .ok (.isub, 1) := by decide +kernel
theorem dX2_nextToSniff_42 : decode cX2_nextToSniff 42 = .ok (.invokestatic 90, 3) := by decide +kernel
theorem dX2_nextToSniff_45 : decode cX2_nextToSniff 45 = .ok (.istore 7, 2) := by decide +kernel
theorem dX2_nextToSniff_47 : decode cX2_nextToSniff 47 = .ok (.iload 7, 2) := by decide +kernel
theorem dX2_nextToSniff_49 : decode cX2_nextToSniff 49 = .ok (.iload 4, 2) := by decide +kernel
theorem dX2_nextToSniff_51 : decode cX2_nextToSniff 51 = .ok (.if_icmp .ge 10, 3) := by decide +kernel
theorem dX2_nextToSniff_54 : decode cX2_nextToSniff 54 = .ok (.iload 5, 2) := by decide +kernel
theorem dX2_nextToSniff_56 : decode cX2_nextToSniff 56 = .ok (.istore_n 3, 1) := by decide +kernel
theorem dX2_nextToSniff_57 : decode cX2_nextToSniff 57 = .ok (.iload 7, 2) := by decide +kernel
theorem dX2_nextToSniff_59 : decode cX2_nextToSniff 59 = .ok (.istore 4, 2) := by decide +kernel
theorem dX2_nextToSniff_61 : decode cX2_nextToSniff 61 = .ok (.iinc 5 1, 3) := by decide +kernel
theorem dX2_nextToSniff_64 : decode cX2_nextToSniff 64 = .ok (.goto (-50), 3) := by decide +kernel
theorem dX2_nextToSniff_67 : decode cX2_nextToSniff 67 = .ok (.iload_n 3, 1) := by decide +kernel
theorem dX2_nextToSniff_68 : decode cX2_nextToSniff 68 = .ok (.ireturn, 1) := by decide +kernel
theorem dX3_init_0 : decode cX3_init 0 = .ok (.aload_n 0, 1) := by decide +kernel
theorem dX3_init_1 : decode cX3_init 1 = .ok (.invokespecial 3, 3) := by decide +kernel
theorem dX3_init_4 : decode cX3_init 4 = .ok (.aload_n 0, 1) := by decide +kernel
theorem dX3_init_5 : decode cX3_init 5 = .ok (.sipush 1024, 3) := by decide +kernel
theorem dX3_init_8 : decode cX3_init 8 = .ok (.newarray .int, 2) := by decide +kernel
theorem dX3_init_10 : decode cX3_init 10 = .ok (.putfield 9, 3) := by decide +kernel
theorem dX3_init_13 : decode cX3_init 13 = .ok (.aload_n 0, 1) := by decide +kernel
theorem dX3_init_14 : decode cX3_init 14 = .ok (.iconst 0, 1) := by decide +kernel
theorem dX3_init_15 : decode cX3_init 15 = .ok (.putfield 15, 3) := by decide +kernel
theorem dX3_init_18 : decode cX3_init 18 = .ok (.aload_n 0, 1) := by decide +kernel
theorem dX3_init_19 : decode cX3_init 19 = .ok (.sipush 1024, 3) := by decide +kernel
theorem dX3_init_22 : decode cX3_init 22 = .ok (.newarray .int, 2) := by decide +kernel
theorem dX3_init_24 : decode cX3_init 24 = .ok (.putfield 19, 3) := by decide +kernel
theorem dX3_init_27 : decode cX3_init 27 = .ok (.aload_n 0, 1) := by decide +kernel
theorem dX3_init_28 : decode cX3_init 28 = .ok (.sipush 1024, 3) := by decide +kernel
theorem dX3_init_31 : decode cX3_init 31 = .ok (.newarray .int, 2) := by decide +kernel
theorem dX3_init_33 : decode cX3_init 33 = .ok (.putfield 22, 3) := by decide +kernel
theorem dX3_init_36 : decode cX3_init 36 = .ok (.aload_n 0, 1) := by decide +kernel
theorem dX3_init_37 : decode cX3_init 37 = .ok (.sipush 1024, 3) := by decide +kernel
theorem dX3_init_40 : decode cX3_init 40 = .ok (.newarray .long, 2) := by decide +kernel
theorem dX3_init_42 : decode cX3_init 42 = .ok (.putfield 25, 3) := by decide +kernel
theorem dX3_init_45 : decode cX3_init 45 = .ok (.aload_n 0, 1) := by decide +kernel
theorem dX3_init_46 : decode cX3_init 46 = .ok (.sipush 1024, 3) := by decide +kernel
theorem dX3_init_49 : decode cX3_init 49 = .ok (.newarray .long, 2) := by decide +kernel
theorem dX3_init_51 : decode cX3_init 51 = .ok (.putfield 29, 3) := by decide +kernel
theorem dX3_init_54 : decode cX3_init 54 = .ok (.aload_n 0, 1) := by decide +kernel
theorem dX3_init_55 : decode cX3_init 55 = .ok (.bipush 72, 2) := by decide +kernel
theorem dX3_init_57 : decode cX3_init 57 = .ok (.newarray .int, 2) := by decide +kernel
theorem dX3_init_59 : decode cX3_init 59 = .ok (.putfield 32, 3) := by decide +kernel
theorem dX3_init_62 : decode cX3_init 62 = .ok (.aload_n 0, 1) := by decide +kernel
theorem dX3_init_63 : decode cX3_init 63 = .ok (.iconst 0, 1) := by decide +kernel
theorem dX3_init_64 : decode cX3_init 64 = .ok (.putfield 35, 3) := by decide +kernel
theorem dX3_init_67 : decode cX3_init 67 = .ok (.return_, 1) := by decide +kernel
theorem dX3_solve_0 : decode cX3_solve 0 = .ok (.aload_n 0, 1) := by decide +kernel
theorem dX3_solve_1 : decode cX3_solve 1 = .ok (.aload_n 1, 1) := by decide +kernel
theorem dX3_solve_2 : decode cX3_solve 2 = .ok (.invokestatic 38, 3) := by decide +kernel
theorem dX3_solve_5 : decode cX3_solve 5 = .ok (.invokevirtual 42, 3) := by decide +kernel
theorem dX3_solve_8 : decode cX3_solve 8 = .ok (.aload_n 0, 1) := by decide +kernel
theorem dX3_solve_9 : decode cX3_solve 9 = .ok (.getfield 19, 3) := by decide +kernel
theorem dX3_solve_12 : decode cX3_solve 12 = .ok (.sipush 1000, 3) := by decide +kernel
theorem dX3_solve_15 : decode cX3_solve 15 = .ok (.invokestatic 46, 3) := by decide +kernel
theorem dX3_solve_18 : decode cX3_solve 18 = .ok (.aload_n 0, 1) := by decide +kernel
theorem dX3_solve_19 : decode cX3_solve 19 = .ok (.getfield 22, 3) := by decide +kernel
theorem dX3_solve_22 : decode cX3_solve 22 = .ok (.sipush 1000, 3) := by decide +kernel
theorem dX3_solve_25 : decode cX3_solve 25 = .ok (.invokestatic 46, 3) := by decide +kernel
theorem dX3_solve_28 : decode cX3_solve 28 = .ok (.iconst 0, 1) := by decide +kernel
theorem dX3_solve_29 : decode cX3_solve 29 = .ok (.istore_n 3, 1) := by decide +kernel
theorem dX3_solve_30 : decode cX3_solve 30 = .ok (.iload_n 3, 1) := by decide +kernel
theorem dX3_solve_31 : decode cX3_solve 31 = .ok (.aload_n 0, 1) := by decide +kernel
theorem dX3_solve_32 : decode cX3_solve 32 = .ok (.getfield 15, 3) := by decide +kernel
theorem dX3_solve_35 : decode cX3_solve 35 = .ok (.if_icmp .ge 64, 3) := by decide +kernel
theorem dX3_solve_38 : decode cX3_solve 38 = .ok (.aload_n 0, 1) := by decide +kernel
theorem dX3_solve_39 : decode cX3_solve 39 = .ok (.getfield 19, 3) := by decide +kernel
theorem dX3_solve_42 : decode cX3_solve 42 = .ok (.aload_n 0, 1) := by decide +kernel
theorem dX3_solve_43 : decode cX3_solve 43 = .ok (.getfield 9, 3) := by decide +kernel
theorem dX3_solve_46 : decode cX3_solve 46 = .ok (.iload_n 3, 1) := by decide +kernel
theorem dX3_solve_47 : decode cX3_solve 47 = .ok (.iaload, 1) := by decide +kernel
theorem dX3_solve_48 : decode cX3_solve 48 = .ok (.aload_n 0, 1) := by decide +kernel
theorem dX3_solve_49 : decode cX3_solve 49 = .ok (.getfield 9, 3) := by decide +kernel
theorem dX3_solve_52 : decode cX3_solve 52 = .ok (.iload_n 3, 1) := by decide +kernel
theorem dX3_solve_53 : decode cX3_solve 53 = .ok (.iaload, 1) := by decide +kernel
theorem dX3_solve_54 : decode cX3_solve 54 = .ok (.iload_n 2, 1) := by decide +kernel
theorem dX3_solve_55 : decode cX3_solve 55 = .ok (.iconst (-1), 1) := by decide +kernel
theorem dX3_solve_56 : decode cX3_solve 56 = .ok (.ixor, 1) := by decide +kernel
theorem dX3_solve_57 : decode cX3_solve 57 = .ok (.iand, 1) := by decide +kernel
theorem dX3_solve_58 : decode cX3_solve 58 = .ok (.ifCond .ne 7, 3) := by decide +kernel
theorem dX3_solve_61 : decode cX3_solve 61 = .ok (.iconst 0, 1) := by decide +kernel
theorem dX3_solve_62 : decode cX3_solve 62 = .ok (.goto 6, 3) := by decide +kernel
theorem dX3_solve_65 : decode cX3_solve 65 = .ok (.sipush 1000, 3) := by decide +kernel
theorem dX3_solve_68 : decode cX3_solve 68 = .ok (.iastore, 1) := by decide +kernel
theorem dX3_solve_69 : decode cX3_solve 69 = .ok (.aload_n 0, 1) := by decide +kernel
theorem dX3_solve_70 : decode cX3_solve 70 = .ok (.getfield 25, 3) := by decide +kernel
theorem dX3_solve_73 : decode cX3_solve 73 = .ok (.aload_n 0, 1) := by decide +kernel
theorem dX3_solve_74 : decode cX3_solve 74 = .ok (.getfield 9, 3) := by decide +kernel
theorem dX3_solve_77 : decode cX3_solve 77 = .ok (.iload_n 3, 1) := by decide +kernel
theorem dX3_solve_78 : decode cX3_solve 78 = .ok (.iaload, 1) := by decide +kernel
theorem dX3_solve_79 : decode cX3_solve 79 = .ok (.lconst 0, 1) := by decide +kernel
theorem dX3_solve_80 : decode cX3_solve 80 = .ok (.lastore, 1) := by decide +kernel
theorem dX3_solve_81 : decode cX3_solve 81 = .ok (.aload_n 0, 1) := by decide +kernel
theorem dX3_solve_82 : decode cX3_solve 82 = .ok (.getfield 29, 3) := by decide +kernel
theorem dX3_solve_85 : decode cX3_solve 85 = .ok (.aload_n 0, 1) := by decide +kernel
theorem dX3_solve_86 : decode cX3_solve 86 = .ok (.getfield 9, 3) := by decide +kernel
theorem dX3_solve_89 : decode cX3_solve 89 = .ok (.iload_n 3, 1) := by decide +kernel
theorem dX3_solve_90 : decode cX3_solve 90 = .ok (.iaload, 1) := by decide +kernel
theorem dX3_solve_91 : decode cX3_solve 91 = .ok (.lconst 0, 1) := by decide +kernel
theorem dX3_solve_92 : decode cX3_solve 92 = .ok (.lastore, 1) := by decide +kernel
theorem dX3_solve_93 : decode cX3_solve 93 = .ok (.iinc 3 1, 3) := by decide +kernel
theorem dX3_solve_96 : decode cX3_solve 96 = .ok (.goto (-66), 3) := by decide +kernel
theorem dX3_solve_99 : decode cX3_solve 99 = .ok (.aload_n 1, 1) := by decide +kernel
theorem dX3_solve_100 : decode cX3_solve 100 = .ok (.getfield 52, 3) := by decide +kernel
theorem dX3_solve_103 : decode cX3_solve 103 = .ok (.iconst 1, 1) := by decide +kernel
theorem dX3_solve_104 : decode cX3_solve 104 = .ok (.isub, 1) := by decide +kernel
theorem dX3_solve_105 : decode cX3_solve 105 = .ok (.istore_n 3, 1) := by decide +kernel
theorem dX3_solve_106 : decode cX3_solve 106 = .ok (.iload_n 3, 1) := by decide +kernel
theorem dX3_solve_107 : decode cX3_solve 107 = .ok (.ifCond .lt 20, 3) := by decide +kernel
theorem dX3_solve_110 : decode cX3_solve 110 = .ok (.aload_n 0, 1) := by decide +kernel
theorem dX3_solve_111 : decode cX3_solve 111 = .ok (.aload_n 1, 1) := by decide +kernel
theorem dX3_solve_112 : decode cX3_solve 112 = .ok (.getfield 57, 3) := by decide +kernel
theorem dX3_solve_115 : decode cX3_solve 115 = .ok (.iload_n 3, 1) := by decide +kernel
theorem dX3_solve_116 : decode cX3_solve 116 = .ok (.iaload, 1) := by decide +kernel
theorem dX3_solve_117 : decode cX3_solve 117 = .ok (.iload_n 3, 1) := by decide +kernel
theorem dX3_solve_118 : decode cX3_solve 118 = .ok (.invokevirtual 60, 3) := by decide +kernel
theorem dX3_solve_121 : decode cX3_solve 121 = .ok (.iinc 3 (-1), 3) := by decide +kernel
theorem dX3_solve_124 : decode cX3_solve 124 = .ok (.goto (-18), 3) := by decide +kernel
theorem dX3_solve_127 : decode cX3_solve 127 = .ok (.aload_n 0, 1) := by decide +kernel
theorem dX3_solve_128 : decode cX3_solve 128 = .ok (.iconst 0, 1) := by decide +kernel
theorem dX3_solve_129 : decode cX3_solve 129 = .ok (.putfield 35, 3) := by decide +kernel
theorem dX3_solve_132 : decode cX3_solve 132 = .ok (.iconst 0, 1) := by decide +kernel
theorem dX3_solve_133 : decode cX3_solve 133 = .ok (.istore_n 3, 1) := by decide +kernel
theorem dX3_solve_134 : decode cX3_solve 134 = .ok (.iconst 0, 1) := by decide +kernel
theorem dX3_solve_135 : decode cX3_solve 135 = .ok (.istore 4, 2) := by decide +kernel
theorem dX3_solve_137 : decode cX3_solve 137 = .ok (.iload 4, 2) := by decide +kernel
theorem dX3_solve_139 : decode cX3_solve 139 = .ok (.aload_n 1, 1) := by decide +kernel
theorem dX3_solve_140 : decode cX3_solve 140 = .ok (.getfield 52, 3) := by decide +kernel
theorem dX3_solve_143 : decode cX3_solve 143 = .ok (.if_icmp .ge 55, 3) := by decide +kernel
theorem dX3_solve_146 : decode cX3_solve 146 = .ok (.aload_n 0, 1) := by decide +kernel
theorem dX3_solve_147 : decode cX3_solve 147 = .ok (.iload 4, 2) := by decide +kernel
theorem dX3_solve_149 : decode cX3_solve 149 = .ok (.iload_n 3, 1) := by decide +kernel
theorem dX3_solve_150 : decode cX3_solve 150 = .ok (.invokevirtual 64, 3) := by decide +kernel
theorem dX3_solve_153 : decode cX3_solve 153 = .ok (.ifCond .eq 27, 3) := by decide +kernel
theorem dX3_solve_156 : decode cX3_solve 156 = .ok (.aload_n 0, 1) := by decide +kernel
theorem dX3_solve_157 : decode cX3_solve 157 = .ok (.getfield 32, 3) := by decide +kernel
theorem dX3_solve_160 : decode cX3_solve 160 = .ok (.aload_n 0, 1) := by decide +kernel
theorem dX3_solve_161 : decode cX3_solve 161 = .ok (.getfield 35, 3) := by decide +kernel
theorem dX3_solve_164 : decode cX3_solve 164 = .ok (.iload 4, 2) := by decide +kernel
theorem dX3_solve_166 : decode cX3_solve 166 = .ok (.iastore, 1) := by decide +kernel
theorem dX3_solve_167 : decode cX3_solve 167 = .ok (.aload_n 0, 1) := by decide +kernel
theorem dX3_solve_168 : decode cX3_solve 168 = .ok (.dup, 1) := by decide +kernel
theorem dX3_solve_169 : decode cX3_solve 169 = .ok (.getfield 35, 3) := by decide +kernel
theorem dX3_solve_172 : decode cX3_solve 172 = .ok (.iconst 1, 1) := by decide +kernel
theorem dX3_solve_173 : decode cX3_solve 173 = .ok (.iadd, 1) := by decide +kernel
theorem dX3_solve_174 : decode cX3_solve 174 = .ok (.putfield 35, 3) := by decide +kernel
theorem dX3_solve_177 : decode cX3_solve 177 = .ok (.goto 15, 3) := by decide +kernel
theorem dX3_solve_180 : decode cX3_solve 180 = .ok (.aload_n 1, 1) := by decide +kernel
theorem dX3_solve_181 : decode cX3_solve 181 = .ok (.getfield 57, 3) := by decide +kernel
theorem dX3_solve_184 : decode cX3_solve 184 = .ok (.iload 4, 2) := by decide +kernel
theorem dX3_solve_186 : decode cX3_solve 186 = .ok (.iaload, 1) := by decide +kernel
theorem dX3_solve_187 : decode cX3_solve 187 = .ok (.iload_n 3, 1) := by decide +kernel
theorem dX3_solve_188 : decode cX3_solve 188 = .ok (.invokestatic 68, 3) := by decide +kernel
theorem dX3_solve_191 : decode cX3_solve 191 = .ok (.istore_n 3, 1) := by decide +kernel
theorem dX3_solve_192 : decode cX3_solve 192 = .ok (.iinc 4 1, 3) := by decide +kernel
theorem dX3_solve_195 : decode cX3_solve 195 = .ok (.goto (-58), 3) := by decide +kernel
theorem dX3_solve_198 : decode cX3_solve 198 = .ok (.return_, 1) := by decide +kernel
theorem dX3_threadsEver_0 : decode cX3_threadsEver 0 = .ok (.iconst 0, 1) := by decide +kernel
theorem dX3_threadsEver_1 : decode cX3_threadsEver 1 = .ok (.istore_n 1, 1) := by decide +kernel
theorem dX3_threadsEver_2 : decode cX3_threadsEver 2 = .ok (.iconst 0, 1) := by decide +kernel
theorem dX3_threadsEver_3 : decode cX3_threadsEver 3 = .ok (.istore_n 2, 1) := by decide +kernel
theorem dX3_threadsEver_4 : decode cX3_threadsEver 4 = .ok (.iload_n 2, 1) := by decide +kernel
theorem dX3_threadsEver_5 : decode cX3_threadsEver 5 = .ok (.aload_n 0, 1) := by decide +kernel
theorem dX3_threadsEver_6 : decode cX3_threadsEver 6 = .ok (.getfield 52, 3) := by decide +kernel
theorem dX3_threadsEver_9 : decode cX3_threadsEver 9 = .ok (.if_icmp .ge 33, 3) := by decide +kernel
theorem dX3_threadsEver_12 : decode cX3_threadsEver 12 = .ok (.aload_n 0, 1) := by decide +kernel
theorem dX3_threadsEver_13 : decode cX3_threadsEver 13 = .ok (.getfield 57, 3) := by decide +kernel
theorem dX3_threadsEver_16 : decode cX3_threadsEver 16 = .ok (.iload_n 2, 1) := by decide +kernel
theorem dX3_threadsEver_17 : decode cX3_threadsEver 17 = .ok (.iaload, 1) := by decide +kernel
theorem dX3_threadsEver_18 : decode cX3_threadsEver 18 = .ok (.invokestatic 72, 3) := by decide +kernel
theorem dX3_threadsEver_21 : decode cX3_threadsEver 21 = .ok (.ifCond .ne 15, 3) := by decide +kernel
theorem dX3_threadsEver_24 : decode cX3_threadsEver 24 = .ok (.iload_n 1, 1) := by decide +kernel
theorem dX3_threadsEver_25 : decode cX3_threadsEver 25 = .ok (.aload_n 0, 1) := by decide +kernel
theorem dX3_threadsEver_26 : decode cX3_threadsEver 26 = .ok (.getfield 57, 3) := by decide +kernel
theorem dX3_threadsEver_29 : decode cX3_threadsEver 29 = .ok (.iload_n 2, 1) := by decide +kernel
theorem dX3_threadsEver_30 : decode cX3_threadsEver 30 = .ok (.iaload, 1) := by decide +kernel
theorem dX3_threadsEver_31 : decode cX3_threadsEver 31 = .ok (.invokestatic 76, 3) := by decide +kernel
theorem dX3_threadsEver_34 : decode cX3_threadsEver 34 = .ok (.ior, 1) := by decide +kernel
theorem dX3_threadsEver_35 : decode cX3_threadsEver 35 = .ok (.istore_n 1, 1) := by decide +kernel
theorem dX3_threadsEver_36 : decode cX3_threadsEver 36 = .ok (.iinc 2 1, 3) := by decide +kernel
theorem dX3_threadsEver_39 : decode cX3_threadsEver 39 = .ok (.goto (-35), 3) := by decide +kernel
theorem dX3_threadsEver_42 : decode cX3_threadsEver 42 = .ok (.iconst 0, 1) := by decide +kernel
theorem dX3_threadsEver_43 : decode cX3_threadsEver 43 = .ok (.istore_n 2, 1) := by decide +kernel
theorem dX3_threadsEver_44 : decode cX3_threadsEver 44 = .ok (.iload_n 2, 1) := by decide +kernel
theorem dX3_threadsEver_45 : decode cX3_threadsEver 45 = .ok (.aload_n 0, 1) := by decide +kernel
theorem dX3_threadsEver_46 : decode cX3_threadsEver 46 = .ok (.getfield 52, 3) := by decide +kernel
theorem dX3_threadsEver_49 : decode cX3_threadsEver 49 = .ok (.if_icmp .ge 27, 3) := by decide +kernel
theorem dX3_threadsEver_52 : decode cX3_threadsEver 52 = .ok (.aload_n 0, 1) := by decide +kernel
theorem dX3_threadsEver_53 : decode cX3_threadsEver 53 = .ok (.getfield 57, 3) := by decide +kernel
theorem dX3_threadsEver_56 : decode cX3_threadsEver 56 = .ok (.iload_n 2, 1) := by decide +kernel
theorem dX3_threadsEver_57 : decode cX3_threadsEver 57 = .ok (.iaload, 1) := by decide +kernel
theorem dX3_threadsEver_58 : decode cX3_threadsEver 58 = .ok (.bipush 20, 2) := by decide +kernel
theorem dX3_threadsEver_60 : decode cX3_threadsEver 60 = .ok (.if_icmp .ne 10, 3) := by decide +kernel
theorem dX3_threadsEver_63 : decode cX3_threadsEver 63 = .ok (.bipush 20, 2) := by decide +kernel
theorem dX3_threadsEver_65 : decode cX3_threadsEver 65 = .ok (.iload_n 1, 1) := by decide +kernel
theorem dX3_threadsEver_66 : decode cX3_threadsEver 66 = .ok (.invokestatic 68, 3) := by decide +kernel
theorem dX3_threadsEver_69 : decode cX3_threadsEver 69 = .ok (.istore_n 1, 1) := by decide +kernel
theorem dX3_threadsEver_70 : decode cX3_threadsEver 70 = .ok (.iinc 2 1, 3) := by decide +kernel
theorem dX3_threadsEver_73 : decode cX3_threadsEver 73 = .ok (.goto (-29), 3) := by decide +kernel
theorem dX3_threadsEver_76 : decode cX3_threadsEver 76 = .ok (.iload_n 1, 1) := by decide +kernel
theorem dX3_threadsEver_77 : decode cX3_threadsEver 77 = .ok (.ireturn, 1) := by decide +kernel
theorem dX3_listSets_0 : decode cX3_listSets 0 = .ok (.aload_n 0, 1) := by decide +kernel
theorem dX3_listSets_1 : decode cX3_listSets 1 = .ok (.iconst 0, 1) := by decide +kernel
theorem dX3_listSets_2 : decode cX3_listSets 2 = .ok (.putfield 15, 3) := by decide +kernel
theorem dX3_listSets_5 : decode cX3_listSets 5 = .ok (.iconst 0, 1) := by decide +kernel
theorem dX3_listSets_6 : decode cX3_listSets 6 = .ok (.istore_n 2, 1) := by decide +kernel
theorem dX3_listSets_7 : decode cX3_listSets 7 = .ok (.iload_n 2, 1) := by decide +kernel
theorem dX3_listSets_8 : decode cX3_listSets 8 = .ok (.sipush 1024, 3) := by decide +kernel
theorem dX3_listSets_11 : decode cX3_listSets 11 = .ok (.if_icmp .ge 37, 3) := by decide +kernel
theorem dX3_listSets_14 : decode cX3_listSets 14 = .ok (.iload_n 2, 1) := by decide +kernel
theorem dX3_listSets_15 : decode cX3_listSets 15 = .ok (.iload_n 1, 1) := by decide +kernel
theorem dX3_listSets_16 : decode cX3_listSets 16 = .ok (.iconst (-1), 1) := by decide +kernel
theorem dX3_listSets_17 : decode cX3_listSets 17 = .ok (.ixor, 1) := by decide +kernel
theorem dX3_listSets_18 : decode cX3_listSets 18 = .ok (.iand, 1) := by decide +kernel
theorem dX3_listSets_19 : decode cX3_listSets 19 = .ok (.ifCond .ne 23, 3) := by decide +kernel
theorem dX3_listSets_22 : decode cX3_listSets 22 = .ok (.aload_n 0, 1) := by decide +kernel
theorem dX3_listSets_23 : decode cX3_listSets 23 = .ok (.getfield 9, 3) := by decide +kernel
theorem dX3_listSets_26 : decode cX3_listSets 26 = .ok (.aload_n 0, 1) := by decide +kernel
theorem dX3_listSets_27 : decode cX3_listSets 27 = .ok (.getfield 15, 3) := by decide +kernel
theorem dX3_listSets_30 : decode cX3_listSets 30 = .ok (.iload_n 2, 1) := by decide +kernel
theorem dX3_listSets_31 : decode cX3_listSets 31 = .ok (.iastore, 1) := by decide +kernel
theorem dX3_listSets_32 : decode cX3_listSets 32 = .ok (.aload_n 0, 1) := by decide +kernel
theorem dX3_listSets_33 : decode cX3_listSets 33 = .ok (.dup, 1) := by decide +kernel
theorem dX3_listSets_34 : decode cX3_listSets 34 = .ok (.getfield 15, 3) := by decide +kernel
theorem dX3_listSets_37 : decode cX3_listSets 37 = .ok (.iconst 1, 1) := by decide +kernel
theorem dX3_listSets_38 : decode cX3_listSets 38 = .ok (.iadd, 1) := by decide +kernel
theorem dX3_listSets_39 : decode cX3_listSets 39 = .ok (.putfield 15, 3) := by decide +kernel
theorem dX3_listSets_42 : decode cX3_listSets 42 = .ok (.iinc 2 1, 3) := by decide +kernel
theorem dX3_listSets_45 : decode cX3_listSets 45 = .ok (.goto (-38), 3) := by decide +kernel
theorem dX3_listSets_48 : decode cX3_listSets 48 = .ok (.return_, 1) := by decide +kernel
theorem dX3_goBack_0 : decode cX3_goBack 0 = .ok (.aload_n 0, 1) := by decide +kernel
theorem dX3_goBack_1 : decode cX3_goBack 1 = .ok (.getfield 19, 3) := by decide +kernel
theorem dX3_goBack_4 : decode cX3_goBack 4 = .ok (.astore_n 3, 1) := by decide +kernel
theorem dX3_goBack_5 : decode cX3_goBack 5 = .ok (.aload_n 0, 1) := by decide +kernel
theorem dX3_goBack_6 : decode cX3_goBack 6 = .ok (.aload_n 0, 1) := by decide +kernel
theorem dX3_goBack_7 : decode cX3_goBack 7 = .ok (.getfield 22, 3) := by decide +kernel
theorem dX3_goBack_10 : decode cX3_goBack 10 = .ok (.putfield 19, 3) := by decide +kernel
theorem dX3_goBack_13 : decode cX3_goBack 13 = .ok (.aload_n 0, 1) := by decide +kernel
theorem dX3_goBack_14 : decode cX3_goBack 14 = .ok (.aload_n 3, 1) := by decide +kernel
theorem dX3_goBack_15 : decode cX3_goBack 15 = .ok (.putfield 22, 3) := by decide +kernel
theorem dX3_goBack_18 : decode cX3_goBack 18 = .ok (.iconst 0, 1) := by decide +kernel
theorem dX3_goBack_19 : decode cX3_goBack 19 = .ok (.istore 4, 2) := by decide +kernel
theorem dX3_goBack_21 : decode cX3_goBack 21 = .ok (.iload 4, 2) := by decide +kernel
theorem dX3_goBack_23 : decode cX3_goBack 23 = .ok (.aload_n 0, 1) := by decide +kernel
theorem dX3_goBack_24 : decode cX3_goBack 24 = .ok (.getfield 15, 3) := by decide +kernel
theorem dX3_goBack_27 : decode cX3_goBack 27 = .ok (.if_icmp .ge 64, 3) := by decide +kernel
theorem dX3_goBack_30 : decode cX3_goBack 30 = .ok (.aload_n 0, 1) := by decide +kernel
theorem dX3_goBack_31 : decode cX3_goBack 31 = .ok (.getfield 9, 3) := by decide +kernel
theorem dX3_goBack_34 : decode cX3_goBack 34 = .ok (.iload 4, 2) := by decide +kernel
theorem dX3_goBack_36 : decode cX3_goBack 36 = .ok (.iaload, 1) := by decide +kernel
theorem dX3_goBack_37 : decode cX3_goBack 37 = .ok (.istore 5, 2) := by decide +kernel
theorem dX3_goBack_39 : decode cX3_goBack 39 = .ok (.aload_n 3, 1) := by decide +kernel
theorem dX3_goBack_40 : decode cX3_goBack 40 = .ok (.iload_n 1, 1) := by decide +kernel
theorem dX3_goBack_41 : decode cX3_goBack 41 = .ok (.iload 5, 2) := by decide +kernel
theorem dX3_goBack_43 : decode cX3_goBack 43 = .ok (.invokestatic 68, 3) := by decide +kernel
theorem dX3_goBack_46 : decode cX3_goBack 46 = .ok (.iaload, 1) := by decide +kernel
theorem dX3_goBack_47 : decode cX3_goBack 47 = .ok (.istore 6, 2) := by decide +kernel
theorem dX3_goBack_49 : decode cX3_goBack 49 = .ok (.aload_n 3, 1) := by decide +kernel
theorem dX3_goBack_50 : decode cX3_goBack 50 = .ok (.iload 5, 2) := by decide +kernel
theorem dX3_goBack_52 : decode cX3_goBack 52 = .ok (.iaload, 1) := by decide +kernel
theorem dX3_goBack_53 : decode cX3_goBack 53 = .ok (.iconst 1, 1) := by decide +kernel
theorem dX3_goBack_54 : decode cX3_goBack 54 = .ok (.iadd, 1) := by decide +kernel
theorem dX3_goBack_55 : decode cX3_goBack 55 = .ok (.istore 7, 2) := by decide +kernel
theorem dX3_goBack_57 : decode cX3_goBack 57 = .ok (.aload_n 0, 1) := by decide +kernel
theorem dX3_goBack_58 : decode cX3_goBack 58 = .ok (.getfield 19, 3) := by decide +kernel
theorem dX3_goBack_61 : decode cX3_goBack 61 = .ok (.iload 5, 2) := by decide +kernel
theorem dX3_goBack_63 : decode cX3_goBack 63 = .ok (.iload 6, 2) := by decide +kernel
theorem dX3_goBack_65 : decode cX3_goBack 65 = .ok (.iload 7, 2) := by decide +kernel
theorem dX3_goBack_67 : decode cX3_goBack 67 = .ok (.invokestatic 80, 3) := by decide +kernel
theorem dX3_goBack_70 : decode cX3_goBack 70 = .ok (.iastore, 1) := by decide +kernel
theorem dX3_goBack_71 : decode cX3_goBack 71 = .ok (.iload 7, 2) := by decide +kernel
theorem dX3_goBack_73 : decode cX3_goBack 73 = .ok (.iload 6, 2) := by decide +kernel
theorem dX3_goBack_75 : decode cX3_goBack 75 = .ok (.if_icmp .gt 10, 3) := by decide +kernel
theorem dX3_goBack_78 : decode cX3_goBack 78 = .ok (.aload_n 0, 1) := by decide +kernel
theorem dX3_goBack_79 : decode cX3_goBack 79 = .ok (.iload_n 2, 1) := by decide +kernel
theorem dX3_goBack_80 : decode cX3_goBack 80 = .ok (.iload 5, 2) := by decide +kernel
theorem dX3_goBack_82 : decode cX3_goBack 82 = .ok (.invokevirtual 85, 3) := by decide +kernel
theorem dX3_goBack_85 : decode cX3_goBack 85 = .ok (.iinc 4 1, 3) := by decide +kernel
theorem dX3_goBack_88 : decode cX3_goBack 88 = .ok (.goto (-67), 3) := by decide +kernel
theorem dX3_goBack_91 : decode cX3_goBack 91 = .ok (.return_, 1) := by decide +kernel
theorem dX3_markLeftOut_0 : decode cX3_markLeftOut 0 = .ok (.iload_n 1, 1) := by decide +kernel
theorem dX3_markLeftOut_1 : decode cX3_markLeftOut 1 = .ok (.bipush 64, 2) := by decide +kernel
theorem dX3_markLeftOut_3 : decode cX3_markLeftOut 3 = .ok (.if_icmp .ge 18, 3) := by decide +kernel
theorem dX3_markLeftOut_6 : decode cX3_markLeftOut 6 = .ok (.aload_n 0, 1) := by decide +kernel
theorem dX3_markLeftOut_7 : decode cX3_markLeftOut 7 = .ok (.getfield 25, 3) := by decide +kernel
theorem dX3_markLeftOut_10 : decode cX3_markLeftOut 10 = .ok (.iload_n 2, 1) := by decide +kernel
theorem dX3_markLeftOut_11 : decode cX3_markLeftOut 11 = .ok (.dup2, 1) := by decide +kernel
theorem dX3_markLeftOut_12 : decode cX3_markLeftOut 12 = .ok (.laload, 1) := by decide +kernel
theorem dX3_markLeftOut_13 : decode cX3_markLeftOut 13 = .ok (.lconst 1, 1) := by decide +kernel
theorem dX3_markLeftOut_14 : decode cX3_markLeftOut 14 = .ok (.iload_n 1, 1) := by decide +kernel
theorem dX3_markLeftOut_15 : decode cX3_markLeftOut 15 = .ok (.lshl, 1) := by decide +kernel
theorem dX3_markLeftOut_16 : decode cX3_markLeftOut 16 = .ok (.lor, 1) := by decide +kernel
theorem dX3_markLeftOut_17 : decode cX3_markLeftOut 17 = .ok (.lastore, 1) := by decide +kernel
theorem dX3_markLeftOut_18 : decode cX3_markLeftOut 18 = .ok (.goto 18, 3) := by decide +kernel
theorem dX3_markLeftOut_21 : decode cX3_markLeftOut 21 = .ok (.aload_n 0, 1) := by decide +kernel
theorem dX3_markLeftOut_22 : decode cX3_markLeftOut 22 = .ok (.getfield 29, 3) := by decide +kernel
theorem dX3_markLeftOut_25 : decode cX3_markLeftOut 25 = .ok (.iload_n 2, 1) := by decide +kernel
theorem dX3_markLeftOut_26 : decode cX3_markLeftOut 26 = .ok (.dup2, 1) := by decide +kernel
theorem dX3_markLeftOut_27 : decode cX3_markLeftOut 27 = .ok (.laload, 1) := by decide +kernel
theorem dX3_markLeftOut_28 : decode cX3_markLeftOut 28 = .ok (.lconst 1, 1) := by decide +kernel
theorem dX3_markLeftOut_29 : decode cX3_markLeftOut 29 = .ok (.iload_n 1, 1) := by decide +kernel
theorem dX3_markLeftOut_30 : decode cX3_markLeftOut 30 = .ok (.bipush 64, 2) := by decide +kernel
theorem dX3_markLeftOut_32 : decode cX3_markLeftOut 32 = .ok (.isub, 1) := by decide +kernel
theorem dX3_markLeftOut_33 : decode cX3_markLeftOut 33 = .ok (.lshl, 1) := by decide +kernel
theorem dX3_markLeftOut_34 : decode cX3_markLeftOut 34 = .ok (.lor, 1) := by decide +kernel
theorem dX3_markLeftOut_35 : decode cX3_markLeftOut 35 = .ok (.lastore, 1) := by decide +kernel
theorem dX3_markLeftOut_36 : decode cX3_markLeftOut 36 = .ok (.return_, 1) := by decide +kernel
theorem dX3_isLeftOut_0 : decode cX3_isLeftOut 0 = .ok (.iload_n 1, 1) := by decide +kernel
theorem dX3_isLeftOut_1 : decode cX3_isLeftOut 1 = .ok (.bipush 64, 2) := by decide +kernel
theorem dX3_isLeftOut_3 : decode cX3_isLeftOut 3 = .ok (.if_icmp .ge 14, 3) := by decide +kernel
theorem dX3_isLeftOut_6 : decode cX3_isLeftOut 6 = .ok (.aload_n 0, 1) := by decide +kernel
theorem dX3_isLeftOut_7 : decode cX3_isLeftOut 7 = .ok (.getfield 25, 3) := by decide +kernel
theorem dX3_isLeftOut_10 : decode cX3_isLeftOut 10 = .ok (.iload_n 2, 1) := by decide +kernel
theorem dX3_isLeftOut_11 : decode cX3_isLeftOut 11 = .ok (.laload, 1) := by decide +kernel
theorem dX3_isLeftOut_12 : decode cX3_isLeftOut 12 = .ok (.iload_n 1, 1) := by decide +kernel
theorem dX3_isLeftOut_13 : decode cX3_isLeftOut 13 = .ok (.lshr, 1) := by decide +kernel
theorem dX3_isLeftOut_14 : decode cX3_isLeftOut 14 = .ok (.goto 14, 3) := by decide +kernel
theorem dX3_isLeftOut_17 : decode cX3_isLeftOut 17 = .ok (.aload_n 0, 1) := by decide +kernel
theorem dX3_isLeftOut_18 : decode cX3_isLeftOut 18 = .ok (.getfield 29, 3) := by decide +kernel
theorem dX3_isLeftOut_21 : decode cX3_isLeftOut 21 = .ok (.iload_n 2, 1) := by decide +kernel
theorem dX3_isLeftOut_22 : decode cX3_isLeftOut 22 = .ok (.laload, 1) := by decide +kernel
theorem dX3_isLeftOut_23 : decode cX3_isLeftOut 23 = .ok (.iload_n 1, 1) := by decide +kernel
theorem dX3_isLeftOut_24 : decode cX3_isLeftOut 24 = .ok (.bipush 64, 2) := by decide +kernel
theorem dX3_isLeftOut_26 : decode cX3_isLeftOut 26 = .ok (.isub, 1) := by decide +kernel
theorem dX3_isLeftOut_27 : decode cX3_isLeftOut 27 = .ok (.lshr, 1) := by decide +kernel
theorem dX3_isLeftOut_28 : decode cX3_isLeftOut 28 = .ok (.lstore_n 3, 1) := by decide +kernel
theorem dX3_isLeftOut_29 : decode cX3_isLeftOut 29 = .ok (.lload_n 3, 1) := by decide +kernel
theorem dX3_isLeftOut_30 : decode cX3_isLeftOut 30 = .ok (.lconst 1, 1) := by decide +kernel
theorem dX3_isLeftOut_31 : decode cX3_isLeftOut 31 = .ok (.land, 1) := by decide +kernel
theorem dX3_isLeftOut_32 : decode cX3_isLeftOut 32 = .ok (.lconst 1, 1) := by decide +kernel
theorem dX3_isLeftOut_33 : decode cX3_isLeftOut 33 = .ok (.lcmp, 1) := by decide +kernel
theorem dX3_isLeftOut_34 : decode cX3_isLeftOut 34 = .ok (.ifCond .ne 7, 3) := by decide +kernel
theorem dX3_isLeftOut_37 : decode cX3_isLeftOut 37 = .ok (.iconst 1, 1) := by decide +kernel
theorem dX3_isLeftOut_38 : decode cX3_isLeftOut 38 = .ok (.goto 4, 3) := by decide +kernel
theorem dX3_isLeftOut_41 : decode cX3_isLeftOut 41 = .ok (.iconst 0, 1) := by decide +kernel
theorem dX3_isLeftOut_42 : decode cX3_isLeftOut 42 = .ok (.ireturn, 1) := by decide +kernel
theorem dX4_init_0 : decode cX4_init 0 = .ok (.aload_n 0, 1) := by decide +kernel
theorem dX4_init_1 : decode cX4_init 1 = .ok (.invokespecial 3, 3) := by decide +kernel
theorem dX4_init_4 : decode cX4_init 4 = .ok (.aload_n 0, 1) := by decide +kernel
theorem dX4_init_5 : decode cX4_init 5 = .ok (.iconst 0, 1) := by decide +kernel
theorem dX4_init_6 : decode cX4_init 6 = .ok (.putfield 9, 3) := by decide +kernel
theorem dX4_init_9 : decode cX4_init 9 = .ok (.aload_n 0, 1) := by decide +kernel
theorem dX4_init_10 : decode cX4_init 10 = .ok (.iconst 4, 1) := by decide +kernel
theorem dX4_init_11 : decode cX4_init 11 = .ok (.newarray .int, 2) := by decide +kernel
theorem dX4_init_13 : decode cX4_init 13 = .ok (.putfield 15, 3) := by decide +kernel
theorem dX4_init_16 : decode cX4_init 16 = .ok (.aload_n 0, 1) := by decide +kernel
theorem dX4_init_17 : decode cX4_init 17 = .ok (.iconst 4, 1) := by decide +kernel
theorem dX4_init_18 : decode cX4_init 18 = .ok (.newarray .int, 2) := by decide +kernel
theorem dX4_init_20 : decode cX4_init 20 = .ok (.putfield 19, 3) := by decide +kernel
theorem dX4_init_23 : decode cX4_init 23 = .ok (.aload_n 0, 1) := by decide +kernel
theorem dX4_init_24 : decode cX4_init 24 = .ok (.iconst 4, 1) := by decide +kernel
theorem dX4_init_25 : decode cX4_init 25 = .ok (.newarray .int, 2) := by decide +kernel
theorem dX4_init_27 : decode cX4_init 27 = .ok (.putfield 22, 3) := by decide +kernel
theorem dX4_init_30 : decode cX4_init 30 = .ok (.aload_n 0, 1) := by decide +kernel
theorem dX4_init_31 : decode cX4_init 31 = .ok (.iconst 4, 1) := by decide +kernel
theorem dX4_init_32 : decode cX4_init 32 = .ok (.newarray .int, 2) := by decide +kernel
theorem dX4_init_34 : decode cX4_init 34 = .ok (.putfield 25, 3) := by decide +kernel
theorem dX4_init_37 : decode cX4_init 37 = .ok (.aload_n 0, 1) := by decide +kernel
theorem dX4_init_38 : decode cX4_init 38 = .ok (.iconst 0, 1) := by decide +kernel
theorem dX4_init_39 : decode cX4_init 39 = .ok (.putfield 28, 3) := by decide +kernel
theorem dX4_init_42 : decode cX4_init 42 = .ok (.aload_n 0, 1) := by decide +kernel
theorem dX4_init_43 : decode cX4_init 43 = .ok (.bipush 10, 2) := by decide +kernel
theorem dX4_init_45 : decode cX4_init 45 = .ok (.newarray .int, 2) := by decide +kernel
theorem dX4_init_47 : decode cX4_init 47 = .ok (.putfield 31, 3) := by decide +kernel
theorem dX4_init_50 : decode cX4_init 50 = .ok (.aload_n 0, 1) := by decide +kernel
theorem dX4_init_51 : decode cX4_init 51 = .ok (.bipush 10, 2) := by decide +kernel
theorem dX4_init_53 : decode cX4_init 53 = .ok (.newarray .int, 2) := by decide +kernel
theorem dX4_init_55 : decode cX4_init 55 = .ok (.putfield 34, 3) := by decide +kernel
theorem dX4_init_58 : decode cX4_init 58 = .ok (.aload_n 0, 1) := by decide +kernel
theorem dX4_init_59 : decode cX4_init 59 = .ok (.bipush 10, 2) := by decide +kernel
theorem dX4_init_61 : decode cX4_init 61 = .ok (.newarray .int, 2) := by decide +kernel
theorem dX4_init_63 : decode cX4_init 63 = .ok (.putfield 37, 3) := by decide +kernel
theorem dX4_init_66 : decode cX4_init 66 = .ok (.aload_n 0, 1) := by decide +kernel
theorem dX4_init_67 : decode cX4_init 67 = .ok (.bipush 10, 2) := by decide +kernel
theorem dX4_init_69 : decode cX4_init 69 = .ok (.newarray .int, 2) := by decide +kernel
theorem dX4_init_71 : decode cX4_init 71 = .ok (.putfield 40, 3) := by decide +kernel
theorem dX4_init_74 : decode cX4_init 74 = .ok (.aload_n 0, 1) := by decide +kernel
theorem dX4_init_75 : decode cX4_init 75 = .ok (.iconst 0, 1) := by decide +kernel
theorem dX4_init_76 : decode cX4_init 76 = .ok (.putfield 43, 3) := by decide +kernel
theorem dX4_init_79 : decode cX4_init 79 = .ok (.aload_n 0, 1) := by decide +kernel
theorem dX4_init_80 : decode cX4_init 80 = .ok (.iconst 0, 1) := by decide +kernel
theorem dX4_init_81 : decode cX4_init 81 = .ok (.putfield 46, 3) := by decide +kernel
theorem dX4_init_84 : decode cX4_init 84 = .ok (.aload_n 0, 1) := by decide +kernel
theorem dX4_init_85 : decode cX4_init 85 = .ok (.iconst 0, 1) := by decide +kernel
theorem dX4_init_86 : decode cX4_init 86 = .ok (.putfield 49, 3) := by decide +kernel
theorem dX4_init_89 : decode cX4_init 89 = .ok (.aload_n 0, 1) := by decide +kernel
theorem dX4_init_90 : decode cX4_init 90 = .ok (.iconst 1, 1) := by decide +kernel
theorem dX4_init_91 : decode cX4_init 91 = .ok (.putfield 52, 3) := by decide +kernel
theorem dX4_init_94 : decode cX4_init 94 = .ok (.return_, 1) := by decide +kernel
theorem dX4_takeFrom_0 : decode cX4_takeFrom 0 = .ok (.aload_n 0, 1) := by decide +kernel
theorem dX4_takeFrom_1 : decode cX4_takeFrom 1 = .ok (.aload_n 1, 1) := by decide +kernel
theorem dX4_takeFrom_2 : decode cX4_takeFrom 2 = .ok (.getfield 9, 3) := by decide +kernel
theorem dX4_takeFrom_5 : decode cX4_takeFrom 5 = .ok (.putfield 9, 3) := by decide +kernel
theorem dX4_takeFrom_8 : decode cX4_takeFrom 8 = .ok (.aload_n 1, 1) := by decide +kernel
theorem dX4_takeFrom_9 : decode cX4_takeFrom 9 = .ok (.getfield 15, 3) := by decide +kernel
theorem dX4_takeFrom_12 : decode cX4_takeFrom 12 = .ok (.iconst 0, 1) := by decide +kernel
theorem dX4_takeFrom_13 : decode cX4_takeFrom 13 = .ok (.aload_n 0, 1) := by decide +kernel
theorem dX4_takeFrom_14 : decode cX4_takeFrom 14 = .ok (.getfield 15, 3) := by decide +kernel
theorem dX4_takeFrom_17 : decode cX4_takeFrom 17 = .ok (.iconst 0, 1) := by decide +kernel
theorem dX4_takeFrom_18 : decode cX4_takeFrom 18 = .ok (.iconst 4, 1) := by decide +kernel
theorem dX4_takeFrom_19 : decode cX4_takeFrom 19 = .ok (.invokestatic 55, 3) := by decide +kernel
theorem dX4_takeFrom_22 : decode cX4_takeFrom 22 = .ok (.aload_n 1, 1) := by decide +kernel
theorem dX4_takeFrom_23 : decode cX4_takeFrom 23 = .ok (.getfield 19, 3) := by decide +kernel
theorem dX4_takeFrom_26 : decode cX4_takeFrom 26 = .ok (.iconst 0, 1) := by decide +kernel
theorem dX4_takeFrom_27 : decode cX4_takeFrom 27 = .ok (.aload_n 0, 1) := by decide +kernel
theorem dX4_takeFrom_28 : decode cX4_takeFrom 28 = .ok (.getfield 19, 3) := by decide +kernel
theorem dX4_takeFrom_31 : decode cX4_takeFrom 31 = .ok (.iconst 0, 1) := by decide +kernel
theorem dX4_takeFrom_32 : decode cX4_takeFrom 32 = .ok (.iconst 4, 1) := by decide +kernel
theorem dX4_takeFrom_33 : decode cX4_takeFrom 33 = .ok (.invokestatic 55, 3) := by decide +kernel
theorem dX4_takeFrom_36 : decode cX4_takeFrom 36 = .ok (.aload_n 1, 1) := by decide +kernel
theorem dX4_takeFrom_37 : decode cX4_takeFrom 37 = .ok (.getfield 22, 3) := by decide +kernel
theorem dX4_takeFrom_40 : decode cX4_takeFrom 40 = .ok (.iconst 0, 1) := by decide +kernel
theorem dX4_takeFrom_41 : decode cX4_takeFrom 41 = .ok (.aload_n 0, 1) := by decide +kernel
theorem dX4_takeFrom_42 : decode cX4_takeFrom 42 = .ok (.getfield 22, 3) := by decide +kernel
theorem dX4_takeFrom_45 : decode cX4_takeFrom 45 = .ok (.iconst 0, 1) := by decide +kernel
theorem dX4_takeFrom_46 : decode cX4_takeFrom 46 = .ok (.iconst 4, 1) := by decide +kernel
theorem dX4_takeFrom_47 : decode cX4_takeFrom 47 = .ok (.invokestatic 55, 3) := by decide +kernel
theorem dX4_takeFrom_50 : decode cX4_takeFrom 50 = .ok (.aload_n 1, 1) := by decide +kernel
theorem dX4_takeFrom_51 : decode cX4_takeFrom 51 = .ok (.getfield 25, 3) := by decide +kernel
theorem dX4_takeFrom_54 : decode cX4_takeFrom 54 = .ok (.iconst 0, 1) := by decide +kernel
theorem dX4_takeFrom_55 : decode cX4_takeFrom 55 = .ok (.aload_n 0, 1) := by decide +kernel
theorem dX4_takeFrom_56 : decode cX4_takeFrom 56 = .ok (.getfield 25, 3) := by decide +kernel
theorem dX4_takeFrom_59 : decode cX4_takeFrom 59 = .ok (.iconst 0, 1) := by decide +kernel
theorem dX4_takeFrom_60 : decode cX4_takeFrom 60 = .ok (.iconst 4, 1) := by decide +kernel
theorem dX4_takeFrom_61 : decode cX4_takeFrom 61 = .ok (.invokestatic 55, 3) := by decide +kernel
theorem dX4_takeFrom_64 : decode cX4_takeFrom 64 = .ok (.aload_n 0, 1) := by decide +kernel
theorem dX4_takeFrom_65 : decode cX4_takeFrom 65 = .ok (.aload_n 1, 1) := by decide +kernel
theorem dX4_takeFrom_66 : decode cX4_takeFrom 66 = .ok (.getfield 28, 3) := by decide +kernel
theorem dX4_takeFrom_69 : decode cX4_takeFrom 69 = .ok (.putfield 28, 3) := by decide +kernel
theorem dX4_takeFrom_72 : decode cX4_takeFrom 72 = .ok (.aload_n 1, 1) := by decide +kernel
theorem dX4_takeFrom_73 : decode cX4_takeFrom 73 = .ok (.getfield 31, 3) := by decide +kernel
theorem dX4_takeFrom_76 : decode cX4_takeFrom 76 = .ok (.iconst 0, 1) := by decide +kernel
theorem dX4_takeFrom_77 : decode cX4_takeFrom 77 = .ok (.aload_n 0, 1) := by decide +kernel
theorem dX4_takeFrom_78 : decode cX4_takeFrom 78 = .ok (.getfield 31, 3) := by decide +kernel
theorem dX4_takeFrom_81 : decode cX4_takeFrom 81 = .ok (.iconst 0, 1) := by decide +kernel
theorem dX4_takeFrom_82 : decode cX4_takeFrom 82 = .ok (.bipush 10, 2) := by decide +kernel
theorem dX4_takeFrom_84 : decode cX4_takeFrom 84 = .ok (.invokestatic 55, 3) := by decide +kernel
theorem dX4_takeFrom_87 : decode cX4_takeFrom 87 = .ok (.aload_n 1, 1) := by decide +kernel
theorem dX4_takeFrom_88 : decode cX4_takeFrom 88 = .ok (.getfield 34, 3) := by decide +kernel
theorem dX4_takeFrom_91 : decode cX4_takeFrom 91 = .ok (.iconst 0, 1) := by decide +kernel
theorem dX4_takeFrom_92 : decode cX4_takeFrom 92 = .ok (.aload_n 0, 1) := by decide +kernel
theorem dX4_takeFrom_93 : decode cX4_takeFrom 93 = .ok (.getfield 34, 3) := by decide +kernel
theorem dX4_takeFrom_96 : decode cX4_takeFrom 96 = .ok (.iconst 0, 1) := by decide +kernel
theorem dX4_takeFrom_97 : decode cX4_takeFrom 97 = .ok (.bipush 10, 2) := by decide +kernel
theorem dX4_takeFrom_99 : decode cX4_takeFrom 99 = .ok (.invokestatic 55, 3) := by decide +kernel
theorem dX4_takeFrom_102 : decode cX4_takeFrom 102 = .ok (.aload_n 1, 1) := by decide +kernel
theorem dX4_takeFrom_103 : decode cX4_takeFrom 103 = .ok (.getfield 37, 3) := by decide +kernel
theorem dX4_takeFrom_106 : decode cX4_takeFrom 106 = .ok (.iconst 0, 1) := by decide +kernel
theorem dX4_takeFrom_107 : decode cX4_takeFrom 107 = .ok (.aload_n 0, 1) := by decide +kernel
theorem dX4_takeFrom_108 : decode cX4_takeFrom 108 = .ok (.getfield 37, 3) := by decide +kernel
theorem dX4_takeFrom_111 : decode cX4_takeFrom 111 = .ok (.iconst 0, 1) := by decide +kernel
theorem dX4_takeFrom_112 : decode cX4_takeFrom 112 = .ok (.bipush 10, 2) := by decide +kernel
theorem dX4_takeFrom_114 : decode cX4_takeFrom 114 = .ok (.invokestatic 55, 3) := by decide +kernel
theorem dX4_takeFrom_117 : decode cX4_takeFrom 117 = .ok (.aload_n 1, 1) := by decide +kernel
theorem dX4_takeFrom_118 : decode cX4_takeFrom 118 = .ok (.getfield 40, 3) := by decide +kernel
theorem dX4_takeFrom_121 : decode cX4_takeFrom 121 = .ok (.iconst 0, 1) := by decide +kernel
theorem dX4_takeFrom_122 : decode cX4_takeFrom 122 = .ok (.aload_n 0, 1) := by decide +kernel
theorem dX4_takeFrom_123 : decode cX4_takeFrom 123 = .ok (.getfield 40, 3) := by decide +kernel
theorem dX4_takeFrom_126 : decode cX4_takeFrom 126 = .ok (.iconst 0, 1) := by decide +kernel
theorem dX4_takeFrom_127 : decode cX4_takeFrom 127 = .ok (.bipush 10, 2) := by decide +kernel
theorem dX4_takeFrom_129 : decode cX4_takeFrom 129 = .ok (.invokestatic 55, 3) := by decide +kernel
theorem dX4_takeFrom_132 : decode cX4_takeFrom 132 = .ok (.aload_n 0, 1) := by decide +kernel
theorem dX4_takeFrom_133 : decode cX4_takeFrom 133 = .ok (.aload_n 1, 1) := by decide +kernel
theorem dX4_takeFrom_134 : decode cX4_takeFrom 134 = .ok (.getfield 43, 3) := by decide +kernel
theorem dX4_takeFrom_137 : decode cX4_takeFrom 137 = .ok (.putfield 43, 3) := by decide +kernel
theorem dX4_takeFrom_140 : decode cX4_takeFrom 140 = .ok (.aload_n 0, 1) := by decide +kernel
theorem dX4_takeFrom_141 : decode cX4_takeFrom 141 = .ok (.aload_n 1, 1) := by decide +kernel
theorem dX4_takeFrom_142 : decode cX4_takeFrom 142 = .ok (.getfield 46, 3) := by decide +kernel
theorem dX4_takeFrom_145 : decode cX4_takeFrom 145 = .ok (.putfield 46, 3) := by decide +kernel
theorem dX4_takeFrom_148 : decode cX4_takeFrom 148 = .ok (.aload_n 0, 1) := by decide +kernel
theorem dX4_takeFrom_149 : decode cX4_takeFrom 149 = .ok (.aload_n 1, 1) := by decide +kernel
theorem dX4_takeFrom_150 : decode cX4_takeFrom 150 = .ok (.getfield 49, 3) := by decide +kernel
theorem dX4_takeFrom_153 : decode cX4_takeFrom 153 = .ok (.putfield 49, 3) := by decide +kernel
theorem dX4_takeFrom_156 : decode cX4_takeFrom 156 = .ok (.aload_n 0, 1) := by decide +kernel
theorem dX4_takeFrom_157 : decode cX4_takeFrom 157 = .ok (.aload_n 1, 1) := by decide +kernel
theorem dX4_takeFrom_158 : decode cX4_takeFrom 158 = .ok (.getfield 52, 3) := by decide +kernel
theorem dX4_takeFrom_161 : decode cX4_takeFrom 161 = .ok (.putfield 52, 3) := by decide +kernel
theorem dX4_takeFrom_164 : decode cX4_takeFrom 164 = .ok (.return_, 1) := by decide +kernel
theorem dX4_takeTeller_0 : decode cX4_takeTeller 0 = .ok (.aload_n 0, 1) := by decide +kernel
theorem dX4_takeTeller_1 : decode cX4_takeTeller 1 = .ok (.dup, 1) := by decide +kernel
theorem dX4_takeTeller_2 : decode cX4_takeTeller 2 = .ok (.getfield 9, 3) := by decide +kernel
theorem dX4_takeTeller_5 : decode cX4_takeTeller 5 = .ok (.iconst 1, 1) := by decide +kernel
theorem dX4_takeTeller_6 : decode cX4_takeTeller 6 = .ok (.iload_n 1, 1) := by decide +kernel
theorem dX4_takeTeller_7 : decode cX4_takeTeller 7 = .ok (.ishl, 1) := by decide +kernel
theorem dX4_takeTeller_8 : decode cX4_takeTeller 8 = .ok (.ior, 1) := by decide +kernel
theorem dX4_takeTeller_9 : decode cX4_takeTeller 9 = .ok (.putfield 9, 3) := by decide +kernel
theorem dX4_takeTeller_12 : decode cX4_takeTeller 12 = .ok (.aload_n 0, 1) := by decide +kernel
theorem dX4_takeTeller_13 : decode cX4_takeTeller 13 = .ok (.getfield 15, 3) := by decide +kernel
theorem dX4_takeTeller_16 : decode cX4_takeTeller 16 = .ok (.iload_n 1, 1) := by decide +kernel
theorem dX4_takeTeller_17 : decode cX4_takeTeller 17 = .ok (.iload_n 2, 1) := by decide +kernel
theorem dX4_takeTeller_18 : decode cX4_takeTeller 18 = .ok (.iastore, 1) := by decide +kernel
theorem dX4_takeTeller_19 : decode cX4_takeTeller 19 = .ok (.aload_n 0, 1) := by decide +kernel
theorem dX4_takeTeller_20 : decode cX4_takeTeller 20 = .ok (.getfield 19, 3) := by decide +kernel
theorem dX4_takeTeller_23 : decode cX4_takeTeller 23 = .ok (.iload_n 1, 1) := by decide +kernel
theorem dX4_takeTeller_24 : decode cX4_takeTeller 24 = .ok (.iload_n 3, 1) := by decide +kernel
theorem dX4_takeTeller_25 : decode cX4_takeTeller 25 = .ok (.iastore, 1) := by decide +kernel
theorem dX4_takeTeller_26 : decode cX4_takeTeller 26 = .ok (.aload_n 0, 1) := by decide +kernel
theorem dX4_takeTeller_27 : decode cX4_takeTeller 27 = .ok (.getfield 22, 3) := by decide +kernel
theorem dX4_takeTeller_30 : decode cX4_takeTeller 30 = .ok (.iload_n 1, 1) := by decide +kernel
theorem dX4_takeTeller_31 : decode cX4_takeTeller 31 = .ok (.iconst 0, 1) := by decide +kernel
theorem dX4_takeTeller_32 : decode cX4_takeTeller 32 = .ok (.iastore, 1) := by decide +kernel
theorem dX4_takeTeller_33 : decode cX4_takeTeller 33 = .ok (.aload_n 0, 1) := by decide +kernel
theorem dX4_takeTeller_34 : decode cX4_takeTeller 34 = .ok (.getfield 25, 3) := by decide +kernel
theorem dX4_takeTeller_37 : decode cX4_takeTeller 37 = .ok (.iload_n 1, 1) := by decide +kernel
theorem dX4_takeTeller_38 : decode cX4_takeTeller 38 = .ok (.iconst 0, 1) := by decide +kernel
theorem dX4_takeTeller_39 : decode cX4_takeTeller 39 = .ok (.iastore, 1) := by decide +kernel
theorem dX4_takeTeller_40 : decode cX4_takeTeller 40 = .ok (.return_, 1) := by decide +kernel
theorem dX4_takeListener_0 : decode cX4_takeListener 0 = .ok (.aload_n 0, 1) := by decide +kernel
theorem dX4_takeListener_1 : decode cX4_takeListener 1 = .ok (.dup, 1) := by decide +kernel
theorem dX4_takeListener_2 : decode cX4_takeListener 2 = .ok (.getfield 28, 3) := by decide +kernel
theorem dX4_takeListener_5 : decode cX4_takeListener 5 = .ok (.iconst 1, 1) := by decide +kernel
theorem dX4_takeListener_6 : decode cX4_takeListener 6 = .ok (.iload_n 1, 1) := by decide +kernel
theorem dX4_takeListener_7 : decode cX4_takeListener 7 = .ok (.ishl, 1) := by decide +kernel
theorem dX4_takeListener_8 : decode cX4_takeListener 8 = .ok (.ior, 1) := by decide +kernel
theorem dX4_takeListener_9 : decode cX4_takeListener 9 = .ok (.putfield 28, 3) := by decide +kernel
theorem dX4_takeListener_12 : decode cX4_takeListener 12 = .ok (.aload_n 0, 1) := by decide +kernel
theorem dX4_takeListener_13 : decode cX4_takeListener 13 = .ok (.getfield 31, 3) := by decide +kernel
theorem dX4_takeListener_16 : decode cX4_takeListener 16 = .ok (.iload_n 1, 1) := by decide +kernel
theorem dX4_takeListener_17 : decode cX4_takeListener 17 = .ok (.iload_n 2, 1) := by decide +kernel
theorem dX4_takeListener_18 : decode cX4_takeListener 18 = .ok (.iastore, 1) := by decide +kernel
theorem dX4_takeListener_19 : decode cX4_takeListener 19 = .ok (.aload_n 0, 1) := by decide +kernel
theorem dX4_takeListener_20 : decode cX4_takeListener 20 = .ok (.getfield 34, 3) := by decide +kernel
theorem dX4_takeListener_23 : decode cX4_takeListener 23 = .ok (.iload_n 1, 1) := by decide +kernel
theorem dX4_takeListener_24 : decode cX4_takeListener 24 = .ok (.iload_n 3, 1) := by decide +kernel
theorem dX4_takeListener_25 : decode cX4_takeListener 25 = .ok (.iastore, 1) := by decide +kernel
theorem dX4_takeListener_26 : decode cX4_takeListener 26 = .ok (.aload_n 0, 1) := by decide +kernel
theorem dX4_takeListener_27 : decode cX4_takeListener 27 = .ok (.getfield 37, 3) := by decide +kernel
theorem dX4_takeListener_30 : decode cX4_takeListener 30 = .ok (.iload_n 1, 1) := by decide +kernel
theorem dX4_takeListener_31 : decode cX4_takeListener 31 = .ok (.iconst 0, 1) := by decide +kernel
theorem dX4_takeListener_32 : decode cX4_takeListener 32 = .ok (.iastore, 1) := by decide +kernel
theorem dX4_takeListener_33 : decode cX4_takeListener 33 = .ok (.return_, 1) := by decide +kernel
theorem dX4_beginAnew_0 : decode cX4_beginAnew 0 = .ok (.iconst 0, 1) := by decide +kernel
theorem dX4_beginAnew_1 : decode cX4_beginAnew 1 = .ok (.istore_n 2, 1) := by decide +kernel
theorem dX4_beginAnew_2 : decode cX4_beginAnew 2 = .ok (.iload_n 2, 1) := by decide +kernel
theorem dX4_beginAnew_3 : decode cX4_beginAnew 3 = .ok (.iconst 4, 1) := by decide +kernel
theorem dX4_beginAnew_4 : decode cX4_beginAnew 4 = .ok (.if_icmp .ge 44, 3) := by decide +kernel
theorem dX4_beginAnew_7 : decode cX4_beginAnew 7 = .ok (.aload_n 0, 1) := by decide +kernel
theorem dX4_beginAnew_8 : decode cX4_beginAnew 8 = .ok (.getfield 9, 3) := by decide +kernel
theorem dX4_beginAnew_11 : decode cX4_beginAnew 11 = .ok (.iload_n 2, 1) := by decide +kernel
theorem dX4_beginAnew_12 : decode cX4_beginAnew 12 = .ok (.invokestatic 61, 3) := by decide +kernel
theorem dX4_beginAnew_15 : decode cX4_beginAnew 15 = .ok (.ifCond .eq 27, 3) := by decide +kernel
theorem dX4_beginAnew_18 : decode cX4_beginAnew 18 = .ok (.aload_n 0, 1) := by decide +kernel
theorem dX4_beginAnew_19 : decode cX4_beginAnew 19 = .ok (.getfield 15, 3) := by decide +kernel
theorem dX4_beginAnew_22 : decode cX4_beginAnew 22 = .ok (.iload_n 2, 1) := by decide +kernel
theorem dX4_beginAnew_23 : decode cX4_beginAnew 23 = .ok (.iaload, 1) := by decide +kernel
theorem dX4_beginAnew_24 : decode cX4_beginAnew 24 = .ok (.iload_n 1, 1) := by decide +kernel
theorem dX4_beginAnew_25 : decode cX4_beginAnew 25 = .ok (.if_icmp .ne 17, 3) := by decide +kernel
theorem dX4_beginAnew_28 : decode cX4_beginAnew 28 = .ok (.aload_n 0, 1) := by decide +kernel
theorem dX4_beginAnew_29 : decode cX4_beginAnew 29 = .ok (.getfield 22, 3) := by decide +kernel
theorem dX4_beginAnew_32 : decode cX4_beginAnew 32 = .ok (.iload_n 2, 1) := by decide +kernel
theorem dX4_beginAnew_33 : decode cX4_beginAnew 33 = .ok (.iconst 0, 1) := by decide +kernel
theorem dX4_beginAnew_34 : decode cX4_beginAnew 34 = .ok (.iastore, 1) := by decide +kernel
theorem dX4_beginAnew_35 : decode cX4_beginAnew 35 = .ok (.aload_n 0, 1) := by decide +kernel
theorem dX4_beginAnew_36 : decode cX4_beginAnew 36 = .ok (.getfield 25, 3) := by decide +kernel
theorem dX4_beginAnew_39 : decode cX4_beginAnew 39 = .ok (.iload_n 2, 1) := by decide +kernel
theorem dX4_beginAnew_40 : decode cX4_beginAnew 40 = .ok (.iconst 0, 1) := by decide +kernel
theorem dX4_beginAnew_41 : decode cX4_beginAnew 41 = .ok (.iastore, 1) := by decide +kernel
theorem dX4_beginAnew_42 : decode cX4_beginAnew 42 = .ok (.iinc 2 1, 3) := by decide +kernel
theorem dX4_beginAnew_45 : decode cX4_beginAnew 45 = .ok (.goto (-43), 3) := by decide +kernel
theorem dX4_beginAnew_48 : decode cX4_beginAnew 48 = .ok (.return_, 1) := by decide +kernel
theorem dX4_isBound_0 : decode cX4_isBound 0 = .ok (.aload_n 0, 1) := by decide +kernel
theorem dX4_isBound_1 : decode cX4_isBound 1 = .ok (.getfield 28, 3) := by decide +kernel
theorem dX4_isBound_4 : decode cX4_isBound 4 = .ok (.iload_n 1, 1) := by decide +kernel
theorem dX4_isBound_5 : decode cX4_isBound 5 = .ok (.invokestatic 61, 3) := by decide +kernel
theorem dX4_isBound_8 : decode cX4_isBound 8 = .ok (.ifCond .eq 17, 3) := by decide +kernel
theorem dX4_isBound_11 : decode cX4_isBound 11 = .ok (.aload_n 0, 1) := by decide +kernel
theorem dX4_isBound_12 : decode cX4_isBound 12 = .ok (.getfield 31, 3) := by decide +kernel
theorem dX4_isBound_15 : decode cX4_isBound 15 = .ok (.iload_n 1, 1) := by decide +kernel
theorem dX4_isBound_16 : decode cX4_isBound 16 = .ok (.iaload, 1) := by decide +kernel
theorem dX4_isBound_17 : decode cX4_isBound 17 = .ok (.iload_n 2, 1) := by decide +kernel
theorem dX4_isBound_18 : decode cX4_isBound 18 = .ok (.if_icmp .ne 7, 3) := by decide +kernel
theorem dX4_isBound_21 : decode cX4_isBound 21 = .ok (.iconst 1, 1) := by decide +kernel
theorem dX4_isBound_22 : decode cX4_isBound 22 = .ok (.goto 4, 3) := by decide +kernel
theorem dX4_isBound_25 : decode cX4_isBound 25 = .ok (.iconst 0, 1) := by decide +kernel
theorem dX4_isBound_26 : decode cX4_isBound 26 = .ok (.ireturn, 1) := by decide +kernel
theorem dX4_boundTo_0 : decode cX4_boundTo 0 = .ok (.iconst 0, 1) := by decide +kernel
theorem dX4_boundTo_1 : decode cX4_boundTo 1 = .ok (.istore_n 2, 1) := by decide +kernel
theorem dX4_boundTo_2 : decode cX4_boundTo 2 = .ok (.iconst 0, 1) := by decide +kernel
theorem dX4_boundTo_3 : decode cX4_boundTo 3 = .ok (.istore_n 3, 1) := by decide +kernel
theorem dX4_boundTo_4 : decode cX4_boundTo 4 = .ok (.iload_n 3, 1) := by decide +kernel
theorem dX4_boundTo_5 : decode cX4_boundTo 5 = .ok (.bipush 10, 2) := by decide +kernel
theorem dX4_boundTo_7 : decode cX4_boundTo 7 = .ok (.if_icmp .ge 24, 3) := by decide +kernel
theorem dX4_boundTo_10 : decode cX4_boundTo 10 = .ok (.aload_n 0, 1) := by decide +kernel
theorem dX4_boundTo_11 : decode cX4_boundTo 11 = .ok (.iload_n 3, 1) := by decide +kernel
theorem dX4_boundTo_12 : decode cX4_boundTo 12 = .ok (.iload_n 1, 1) := by decide +kernel
theorem dX4_boundTo_13 : decode cX4_boundTo 13 = .ok (.invokevirtual 65, 3) := by decide +kernel
theorem dX4_boundTo_16 : decode cX4_boundTo 16 = .ok (.ifCond .eq 9, 3) := by decide +kernel
theorem dX4_boundTo_19 : decode cX4_boundTo 19 = .ok (.iload_n 2, 1) := by decide +kernel
theorem dX4_boundTo_20 : decode cX4_boundTo 20 = .ok (.iconst 1, 1) := by decide +kernel
theorem dX4_boundTo_21 : decode cX4_boundTo 21 = .ok (.iload_n 3, 1) := by decide +kernel
theorem dX4_boundTo_22 : decode cX4_boundTo 22 = .ok (.ishl, 1) := by decide +kernel
theorem dX4_boundTo_23 : decode cX4_boundTo 23 = .ok (.ior, 1) := by decide +kernel
theorem dX4_boundTo_24 : decode cX4_boundTo 24 = .ok (.istore_n 2, 1) := by decide +kernel
theorem dX4_boundTo_25 : decode cX4_boundTo 25 = .ok (.iinc 3 1, 3) := by decide +kernel
theorem dX4_boundTo_28 : decode cX4_boundTo 28 = .ok (.goto (-24), 3) := by decide +kernel
theorem dX4_boundTo_31 : decode cX4_boundTo 31 = .ok (.iload_n 2, 1) := by decide +kernel
theorem dX4_boundTo_32 : decode cX4_boundTo 32 = .ok (.ireturn, 1) := by decide +kernel
theorem dX4_draw_0 : decode cX4_draw 0 = .ok (.aload_n 0, 1) := by decide +kernel
theorem dX4_draw_1 : decode cX4_draw 1 = .ok (.sipush 25173, 3) := by decide +kernel
theorem dX4_draw_4 : decode cX4_draw 4 = .ok (.aload_n 0, 1) := by decide +kernel
theorem dX4_draw_5 : decode cX4_draw 5 = .ok (.getfield 52, 3) := by decide +kernel
theorem dX4_draw_8 : decode cX4_draw 8 = .ok (.imul, 1) := by decide +kernel
theorem dX4_draw_9 : decode cX4_draw 9 = .ok (.sipush 13849, 3) := by decide +kernel
theorem dX4_draw_12 : decode cX4_draw 12 = .ok (.iadd, 1) := by decide +kernel
theorem dX4_draw_13 : decode cX4_draw 13 = .ok (.ldc 68, 2) := by decide +kernel
theorem dX4_draw_15 : decode cX4_draw 15 = .ok (.iand, 1) := by decide +kernel
theorem dX4_draw_16 : decode cX4_draw 16 = .ok (.putfield 52, 3) := by decide +kernel
theorem dX4_draw_19 : decode cX4_draw 19 = .ok (.aload_n 0, 1) := by decide +kernel
theorem dX4_draw_20 : decode cX4_draw 20 = .ok (.getfield 52, 3) := by decide +kernel
theorem dX4_draw_23 : decode cX4_draw 23 = .ok (.bipush 10, 2) := by decide +kernel
theorem dX4_draw_25 : decode cX4_draw 25 = .ok (.irem, 1) := by decide +kernel
theorem dX4_draw_26 : decode cX4_draw 26 = .ok (.ireturn, 1) := by decide +kernel
theorem dX5_init_0 : decode cX5_init 0 = .ok (.aload_n 0, 1) := by decide +kernel
theorem dX5_init_1 : decode cX5_init 1 = .ok (.invokespecial 3, 3) := by decide +kernel
theorem dX5_init_4 : decode cX5_init 4 = .ok (.aload_n 0, 1) := by decide +kernel
theorem dX5_init_5 : decode cX5_init 5 = .ok (.iconst 0, 1) := by decide +kernel
theorem dX5_init_6 : decode cX5_init 6 = .ok (.putfield 9, 3) := by decide +kernel
theorem dX5_init_9 : decode cX5_init 9 = .ok (.aload_n 0, 1) := by decide +kernel
theorem dX5_init_10 : decode cX5_init 10 = .ok (.bipush 16, 2) := by decide +kernel
theorem dX5_init_12 : decode cX5_init 12 = .ok (.newarray .int, 2) := by decide +kernel
theorem dX5_init_14 : decode cX5_init 14 = .ok (.putfield 15, 3) := by decide +kernel
theorem dX5_init_17 : decode cX5_init 17 = .ok (.aload_n 0, 1) := by decide +kernel
theorem dX5_init_18 : decode cX5_init 18 = .ok (.bipush 16, 2) := by decide +kernel
theorem dX5_init_20 : decode cX5_init 20 = .ok (.newarray .int, 2) := by decide +kernel
theorem dX5_init_22 : decode cX5_init 22 = .ok (.putfield 19, 3) := by decide +kernel
theorem dX5_init_25 : decode cX5_init 25 = .ok (.aload_n 0, 1) := by decide +kernel
theorem dX5_init_26 : decode cX5_init 26 = .ok (.bipush 16, 2) := by decide +kernel
theorem dX5_init_28 : decode cX5_init 28 = .ok (.newarray .int, 2) := by decide +kernel
theorem dX5_init_30 : decode cX5_init 30 = .ok (.putfield 22, 3) := by decide +kernel
theorem dX5_init_33 : decode cX5_init 33 = .ok (.aload_n 0, 1) := by decide +kernel
theorem dX5_init_34 : decode cX5_init 34 = .ok (.bipush 16, 2) := by decide +kernel
theorem dX5_init_36 : decode cX5_init 36 = .ok (.newarray .int, 2) := by decide +kernel
theorem dX5_init_38 : decode cX5_init 38 = .ok (.putfield 25, 3) := by decide +kernel
theorem dX5_init_41 : decode cX5_init 41 = .ok (.aload_n 0, 1) := by decide +kernel
theorem dX5_init_42 : decode cX5_init 42 = .ok (.iconst 0, 1) := by decide +kernel
theorem dX5_init_43 : decode cX5_init 43 = .ok (.putfield 28, 3) := by decide +kernel
theorem dX5_init_46 : decode cX5_init 46 = .ok (.aload_n 0, 1) := by decide +kernel
theorem dX5_init_47 : decode cX5_init 47 = .ok (.sipush 240, 3) := by decide +kernel
theorem dX5_init_50 : decode cX5_init 50 = .ok (.newarray .int, 2) := by decide +kernel
theorem dX5_init_52 : decode cX5_init 52 = .ok (.putfield 31, 3) := by decide +kernel
theorem dX5_init_55 : decode cX5_init 55 = .ok (.aload_n 0, 1) := by decide +kernel
theorem dX5_init_56 : decode cX5_init 56 = .ok (.bipush 64, 2) := by decide +kernel
theorem dX5_init_58 : decode cX5_init 58 = .ok (.newarray .int, 2) := by decide +kernel
theorem dX5_init_60 : decode cX5_init 60 = .ok (.putfield 34, 3) := by decide +kernel
theorem dX5_init_63 : decode cX5_init 63 = .ok (.aload_n 0, 1) := by decide +kernel
theorem dX5_init_64 : decode cX5_init 64 = .ok (.iconst 0, 1) := by decide +kernel
theorem dX5_init_65 : decode cX5_init 65 = .ok (.putfield 37, 3) := by decide +kernel
theorem dX5_init_68 : decode cX5_init 68 = .ok (.return_, 1) := by decide +kernel
theorem dX5_clear_0 : decode cX5_clear 0 = .ok (.aload_n 0, 1) := by decide +kernel
theorem dX5_clear_1 : decode cX5_clear 1 = .ok (.iconst 0, 1) := by decide +kernel
theorem dX5_clear_2 : decode cX5_clear 2 = .ok (.putfield 9, 3) := by decide +kernel
theorem dX5_clear_5 : decode cX5_clear 5 = .ok (.aload_n 0, 1) := by decide +kernel
theorem dX5_clear_6 : decode cX5_clear 6 = .ok (.iconst 0, 1) := by decide +kernel
theorem dX5_clear_7 : decode cX5_clear 7 = .ok (.putfield 28, 3) := by decide +kernel
theorem dX5_clear_10 : decode cX5_clear 10 = .ok (.return_, 1) := by decide +kernel
theorem dX5_takeFrom_0 : decode cX5_takeFrom 0 = .ok (.aload_n 0, 1) := by decide +kernel
theorem dX5_takeFrom_1 : decode cX5_takeFrom 1 = .ok (.aload_n 1, 1) := by decide +kernel
theorem dX5_takeFrom_2 : decode cX5_takeFrom 2 = .ok (.getfield 9, 3) := by decide +kernel
theorem dX5_takeFrom_5 : decode cX5_takeFrom 5 = .ok (.putfield 9, 3) := by decide +kernel
theorem dX5_takeFrom_8 : decode cX5_takeFrom 8 = .ok (.aload_n 0, 1) := by decide +kernel
theorem dX5_takeFrom_9 : decode cX5_takeFrom 9 = .ok (.aload_n 1, 1) := by decide +kernel
theorem dX5_takeFrom_10 : decode cX5_takeFrom 10 = .ok (.getfield 28, 3) := by decide +kernel
theorem dX5_takeFrom_13 : decode cX5_takeFrom 13 = .ok (.putfield 28, 3) := by decide +kernel
theorem dX5_takeFrom_16 : decode cX5_takeFrom 16 = .ok (.aload_n 1, 1) := by decide +kernel
theorem dX5_takeFrom_17 : decode cX5_takeFrom 17 = .ok (.getfield 15, 3) := by decide +kernel
theorem dX5_takeFrom_20 : decode cX5_takeFrom 20 = .ok (.iconst 0, 1) := by decide +kernel
theorem dX5_takeFrom_21 : decode cX5_takeFrom 21 = .ok (.aload_n 0, 1) := by decide +kernel
theorem dX5_takeFrom_22 : decode cX5_takeFrom 22 = .ok (.getfield 15, 3) := by decide +kernel
theorem dX5_takeFrom_25 : decode cX5_takeFrom 25 = .ok (.iconst 0, 1) := by decide +kernel
theorem dX5_takeFrom_26 : decode cX5_takeFrom 26 = .ok (.bipush 16, 2) := by decide +kernel
theorem dX5_takeFrom_28 : decode cX5_takeFrom 28 = .ok (.invokestatic 41, 3) := by decide +kernel
theorem dX5_takeFrom_31 : decode cX5_takeFrom 31 = .ok (.aload_n 1, 1) := by decide +kernel
theorem dX5_takeFrom_32 : decode cX5_takeFrom 32 = .ok (.getfield 19, 3) := by decide +kernel
theorem dX5_takeFrom_35 : decode cX5_takeFrom 35 = .ok (.iconst 0, 1) := by decide +kernel
theorem dX5_takeFrom_36 : decode cX5_takeFrom 36 = .ok (.aload_n 0, 1) := by decide +kernel
theorem dX5_takeFrom_37 : decode cX5_takeFrom 37 = .ok (.getfield 19, 3) := by decide +kernel
theorem dX5_takeFrom_40 : decode cX5_takeFrom 40 = .ok (.iconst 0, 1) := by decide +kernel
theorem dX5_takeFrom_41 : decode cX5_takeFrom 41 = .ok (.bipush 16, 2) := by decide +kernel
theorem dX5_takeFrom_43 : decode cX5_takeFrom 43 = .ok (.invokestatic 41, 3) := by decide +kernel
theorem dX5_takeFrom_46 : decode cX5_takeFrom 46 = .ok (.aload_n 1, 1) := by decide +kernel
theorem dX5_takeFrom_47 : decode cX5_takeFrom 47 = .ok (.getfield 22, 3) := by decide +kernel
theorem dX5_takeFrom_50 : decode cX5_takeFrom 50 = .ok (.iconst 0, 1) := by decide +kernel
theorem dX5_takeFrom_51 : decode cX5_takeFrom 51 = .ok (.aload_n 0, 1) := by decide +kernel
theorem dX5_takeFrom_52 : decode cX5_takeFrom 52 = .ok (.getfield 22, 3) := by decide +kernel
theorem dX5_takeFrom_55 : decode cX5_takeFrom 55 = .ok (.iconst 0, 1) := by decide +kernel
theorem dX5_takeFrom_56 : decode cX5_takeFrom 56 = .ok (.bipush 16, 2) := by decide +kernel
theorem dX5_takeFrom_58 : decode cX5_takeFrom 58 = .ok (.invokestatic 41, 3) := by decide +kernel
theorem dX5_takeFrom_61 : decode cX5_takeFrom 61 = .ok (.aload_n 1, 1) := by decide +kernel
theorem dX5_takeFrom_62 : decode cX5_takeFrom 62 = .ok (.getfield 25, 3) := by decide +kernel
theorem dX5_takeFrom_65 : decode cX5_takeFrom 65 = .ok (.iconst 0, 1) := by decide +kernel
theorem dX5_takeFrom_66 : decode cX5_takeFrom 66 = .ok (.aload_n 0, 1) := by decide +kernel
theorem dX5_takeFrom_67 : decode cX5_takeFrom 67 = .ok (.getfield 25, 3) := by decide +kernel
theorem dX5_takeFrom_70 : decode cX5_takeFrom 70 = .ok (.iconst 0, 1) := by decide +kernel
theorem dX5_takeFrom_71 : decode cX5_takeFrom 71 = .ok (.bipush 16, 2) := by decide +kernel
theorem dX5_takeFrom_73 : decode cX5_takeFrom 73 = .ok (.invokestatic 41, 3) := by decide +kernel
theorem dX5_takeFrom_76 : decode cX5_takeFrom 76 = .ok (.aload_n 1, 1) := by decide +kernel
theorem dX5_takeFrom_77 : decode cX5_takeFrom 77 = .ok (.getfield 31, 3) := by decide +kernel
theorem dX5_takeFrom_80 : decode cX5_takeFrom 80 = .ok (.iconst 0, 1) := by decide +kernel
theorem dX5_takeFrom_81 : decode cX5_takeFrom 81 = .ok (.aload_n 0, 1) := by decide +kernel
theorem dX5_takeFrom_82 : decode cX5_takeFrom 82 = .ok (.getfield 31, 3) := by decide +kernel
theorem dX5_takeFrom_85 : decode cX5_takeFrom 85 = .ok (.iconst 0, 1) := by decide +kernel
theorem dX5_takeFrom_86 : decode cX5_takeFrom 86 = .ok (.sipush 240, 3) := by decide +kernel
theorem dX5_takeFrom_89 : decode cX5_takeFrom 89 = .ok (.invokestatic 41, 3) := by decide +kernel
theorem dX5_takeFrom_92 : decode cX5_takeFrom 92 = .ok (.return_, 1) := by decide +kernel
theorem dX5_addStep_0 : decode cX5_addStep 0 = .ok (.aload_n 0, 1) := by decide +kernel
theorem dX5_addStep_1 : decode cX5_addStep 1 = .ok (.getfield 28, 3) := by decide +kernel
theorem dX5_addStep_4 : decode cX5_addStep 4 = .ok (.sipush 240, 3) := by decide +kernel
theorem dX5_addStep_7 : decode cX5_addStep 7 = .ok (.if_icmp .ge 27, 3) := by decide +kernel
theorem dX5_addStep_10 : decode cX5_addStep 10 = .ok (.aload_n 0, 1) := by decide +kernel
theorem dX5_addStep_11 : decode cX5_addStep 11 = .ok (.getfield 31, 3) := by decide +kernel
theorem dX5_addStep_14 : decode cX5_addStep 14 = .ok (.aload_n 0, 1) := by decide +kernel
theorem dX5_addStep_15 : decode cX5_addStep 15 = .ok (.getfield 28, 3) := by decide +kernel
theorem dX5_addStep_18 : decode cX5_addStep 18 = .ok (.iload_n 2, 1) := by decide +kernel
theorem dX5_addStep_19 : decode cX5_addStep 19 = .ok (.iconst 4, 1) := by decide +kernel
theorem dX5_addStep_20 : decode cX5_addStep 20 = .ok (.ishl, 1) := by decide +kernel
theorem dX5_addStep_21 : decode cX5_addStep 21 = .ok (.iload_n 1, 1) := by decide +kernel
theorem dX5_addStep_22 : decode cX5_addStep 22 = .ok (.ior, 1) := by decide +kernel
theorem dX5_addStep_23 : decode cX5_addStep 23 = .ok (.iastore, 1) := by decide +kernel
theorem dX5_addStep_24 : decode cX5_addStep 24 = .ok (.aload_n 0, 1) := by decide +kernel
theorem dX5_addStep_25 : decode cX5_addStep 25 = .ok (.dup, 1) := by decide +kernel
theorem dX5_addStep_26 : decode cX5_addStep 26 = .ok (.getfield 28, 3) := by decide +kernel
theorem dX5_addStep_29 : decode cX5_addStep 29 = .ok (.iconst 1, 1) := by decide +kernel
theorem dX5_addStep_30 : decode cX5_addStep 30 = .ok (.iadd, 1) := by decide +kernel
theorem dX5_addStep_31 : decode cX5_addStep 31 = .ok (.putfield 28, 3) := by decide +kernel
theorem dX5_addStep_34 : decode cX5_addStep 34 = .ok (.return_, 1) := by decide +kernel
theorem dX5_leapHere_0 : decode cX5_leapHere 0 = .ok (.iload_n 1, 1) := by decide +kernel
theorem dX5_leapHere_1 : decode cX5_leapHere 1 = .ok (.ifCond .lt 25, 3) := by decide +kernel
theorem dX5_leapHere_4 : decode cX5_leapHere 4 = .ok (.iload_n 1, 1) := by decide +kernel
theorem dX5_leapHere_5 : decode cX5_leapHere 5 = .ok (.sipush 240, 3) := by decide +kernel
theorem dX5_leapHere_8 : decode cX5_leapHere 8 = .ok (.if_icmp .ge 18, 3) := by decide +kernel
theorem dX5_leapHere_11 : decode cX5_leapHere 11 = .ok (.aload_n 0, 1) := by decide +kernel
theorem dX5_leapHere_12 : decode cX5_leapHere 12 = .ok (.getfield 31, 3) := by decide +kernel
theorem dX5_leapHere_15 : decode cX5_leapHere 15 = .ok (.iload_n 1, 1) := by decide +kernel
theorem dX5_leapHere_16 : decode cX5_leapHere 16 = .ok (.dup2, 1) := by decide +kernel
theorem dX5_leapHere_17 : decode cX5_leapHere 17 = .ok (.iaload, 1) := by decide +kernel
theorem dX5_leapHere_18 : decode cX5_leapHere 18 = .ok (.aload_n 0, 1) := by decide +kernel
theorem dX5_leapHere_19 : decode cX5_leapHere 19 = .ok (.getfield 28, 3) := by decide +kernel
theorem dX5_leapHere_22 : decode cX5_leapHere 22 = .ok (.iconst 4, 1) := by decide +kernel
theorem dX5_leapHere_23 : decode cX5_leapHere 23 = .ok (.ishl, 1) := by decide +kernel
theorem dX5_leapHere_24 : decode cX5_leapHere 24 = .ok (.ior, 1) := by decide +kernel
theorem dX5_leapHere_25 : decode cX5_leapHere 25 = .ok (.iastore, 1) := by decide +kernel
theorem dX5_leapHere_26 : decode cX5_leapHere 26 = .ok (.return_, 1) := by decide +kernel
theorem dX5_addClause_0 : decode cX5_addClause 0 = .ok (.aload_n 0, 1) := by decide +kernel
theorem dX5_addClause_1 : decode cX5_addClause 1 = .ok (.getfield 9, 3) := by decide +kernel
theorem dX5_addClause_4 : decode cX5_addClause 4 = .ok (.bipush 16, 2) := by decide +kernel
theorem dX5_addClause_6 : decode cX5_addClause 6 = .ok (.if_icmp .ge 56, 3) := by decide +kernel
theorem dX5_addClause_9 : decode cX5_addClause 9 = .ok (.aload_n 0, 1) := by decide +kernel
theorem dX5_addClause_10 : decode cX5_addClause 10 = .ok (.getfield 15, 3) := by decide +kernel
theorem dX5_addClause_13 : decode cX5_addClause 13 = .ok (.aload_n 0, 1) := by decide +kernel
theorem dX5_addClause_14 : decode cX5_addClause 14 = .ok (.getfield 9, 3) := by decide +kernel
theorem dX5_addClause_17 : decode cX5_addClause 17 = .ok (.iload_n 1, 1) := by decide +kernel
theorem dX5_addClause_18 : decode cX5_addClause 18 = .ok (.iastore, 1) := by decide +kernel
theorem dX5_addClause_19 : decode cX5_addClause 19 = .ok (.aload_n 0, 1) := by decide +kernel
theorem dX5_addClause_20 : decode cX5_addClause 20 = .ok (.getfield 19, 3) := by decide +kernel
theorem dX5_addClause_23 : decode cX5_addClause 23 = .ok (.aload_n 0, 1) := by decide +kernel
theorem dX5_addClause_24 : decode cX5_addClause 24 = .ok (.getfield 9, 3) := by decide +kernel
theorem dX5_addClause_27 : decode cX5_addClause 27 = .ok (.iload_n 2, 1) := by decide +kernel
theorem dX5_addClause_28 : decode cX5_addClause 28 = .ok (.iastore, 1) := by decide +kernel
theorem dX5_addClause_29 : decode cX5_addClause 29 = .ok (.aload_n 0, 1) := by decide +kernel
theorem dX5_addClause_30 : decode cX5_addClause 30 = .ok (.getfield 22, 3) := by decide +kernel
theorem dX5_addClause_33 : decode cX5_addClause 33 = .ok (.aload_n 0, 1) := by decide +kernel
theorem dX5_addClause_34 : decode cX5_addClause 34 = .ok (.getfield 9, 3) := by decide +kernel
theorem dX5_addClause_37 : decode cX5_addClause 37 = .ok (.iload_n 3, 1) := by decide +kernel
theorem dX5_addClause_38 : decode cX5_addClause 38 = .ok (.iastore, 1) := by decide +kernel
theorem dX5_addClause_39 : decode cX5_addClause 39 = .ok (.aload_n 0, 1) := by decide +kernel
theorem dX5_addClause_40 : decode cX5_addClause 40 = .ok (.getfield 25, 3) := by decide +kernel
theorem dX5_addClause_43 : decode cX5_addClause 43 = .ok (.aload_n 0, 1) := by decide +kernel
theorem dX5_addClause_44 : decode cX5_addClause 44 = .ok (.getfield 9, 3) := by decide +kernel
theorem dX5_addClause_47 : decode cX5_addClause 47 = .ok (.aload_n 0, 1) := by decide +kernel
theorem dX5_addClause_48 : decode cX5_addClause 48 = .ok (.getfield 28, 3) := by decide +kernel
theorem dX5_addClause_51 : decode cX5_addClause 51 = .ok (.iastore, 1) := by decide +kernel
theorem dX5_addClause_52 : decode cX5_addClause 52 = .ok (.aload_n 0, 1) := by decide +kernel
theorem dX5_addClause_53 : decode cX5_addClause 53 = .ok (.dup, 1) := by decide +kernel
theorem dX5_addClause_54 : decode cX5_addClause 54 = .ok (.getfield 9, 3) := by decide +kernel
theorem dX5_addClause_57 : decode cX5_addClause 57 = .ok (.iconst 1, 1) := by decide +kernel
theorem dX5_addClause_58 : decode cX5_addClause 58 = .ok (.iadd, 1) := by decide +kernel
theorem dX5_addClause_59 : decode cX5_addClause 59 = .ok (.putfield 9, 3) := by decide +kernel
theorem dX5_addClause_62 : decode cX5_addClause 62 = .ok (.return_, 1) := by decide +kernel
theorem dX5_worthOf_0 : decode cX5_worthOf 0 = .ok (.iconst 0, 1) := by decide +kernel
theorem dX5_worthOf_1 : decode cX5_worthOf 1 = .ok (.istore_n 3, 1) := by decide +kernel
theorem dX5_worthOf_2 : decode cX5_worthOf 2 = .ok (.iload_n 3, 1) := by decide +kernel
theorem dX5_worthOf_3 : decode cX5_worthOf 3 = .ok (.aload_n 0, 1) := by decide +kernel
theorem dX5_worthOf_4 : decode cX5_worthOf 4 = .ok (.getfield 9, 3) := by decide +kernel
theorem dX5_worthOf_7 : decode cX5_worthOf 7 = .ok (.if_icmp .ge 109, 3) := by decide +kernel
theorem dX5_worthOf_10 : decode cX5_worthOf 10 = .ok (.iload_n 3, 1) := by decide +kernel
theorem dX5_worthOf_11 : decode cX5_worthOf 11 = .ok (.bipush 16, 2) := by decide +kernel
theorem dX5_worthOf_13 : decode cX5_worthOf 13 = .ok (.if_icmp .ge 103, 3) := by decide +kernel
theorem dX5_worthOf_16 : decode cX5_worthOf 16 = .ok (.aload_n 0, 1) := by decide +kernel
theorem dX5_worthOf_17 : decode cX5_worthOf 17 = .ok (.getfield 15, 3) := by decide +kernel
theorem dX5_worthOf_20 : decode cX5_worthOf 20 = .ok (.iload_n 3, 1) := by decide +kernel
theorem dX5_worthOf_21 : decode cX5_worthOf 21 = .ok (.iaload, 1) := by decide +kernel
theorem dX5_worthOf_22 : decode cX5_worthOf 22 = .ok (.iload_n 1, 1) := by decide +kernel
theorem dX5_worthOf_23 : decode cX5_worthOf 23 = .ok (.if_icmp .ne 87, 3) := by decide +kernel
theorem dX5_worthOf_26 : decode cX5_worthOf 26 = .ok (.aload_n 0, 1) := by decide +kernel
theorem dX5_worthOf_27 : decode cX5_worthOf 27 = .ok (.aload_n 0, 1) := by decide +kernel
theorem dX5_worthOf_28 : decode cX5_worthOf 28 = .ok (.getfield 22, 3) := by decide +kernel
theorem dX5_worthOf_31 : decode cX5_worthOf 31 = .ok (.iload_n 3, 1) := by decide +kernel
theorem dX5_worthOf_32 : decode cX5_worthOf 32 = .ok (.iaload, 1) := by decide +kernel
theorem dX5_worthOf_33 : decode cX5_worthOf 33 = .ok (.aload_n 0, 1) := by decide +kernel
theorem dX5_worthOf_34 : decode cX5_worthOf 34 = .ok (.getfield 25, 3) := by decide +kernel
theorem dX5_worthOf_37 : decode cX5_worthOf 37 = .ok (.iload_n 3, 1) := by decide +kernel
theorem dX5_worthOf_38 : decode cX5_worthOf 38 = .ok (.iaload, 1) := by decide +kernel
theorem dX5_worthOf_39 : decode cX5_worthOf 39 = .ok (.aload_n 2, 1) := by decide +kernel
theorem dX5_worthOf_40 : decode cX5_worthOf 40 = .ok (.invokevirtual 47, 3) := by decide +kernel
theorem dX5_worthOf_43 : decode cX5_worthOf 43 = .ok (.ifCond .eq 67, 3) := by decide +kernel
theorem dX5_worthOf_46 : decode cX5_worthOf 46 = .ok (.iload_n 1, 1) := by decide +kernel
theorem dX5_worthOf_47 : decode cX5_worthOf 47 = .ok (.bipush 6, 2) := by decide +kernel
theorem dX5_worthOf_49 : decode cX5_worthOf 49 = .ok (.if_icmp .ne 7, 3) := by decide +kernel
theorem dX5_worthOf_52 : decode cX5_worthOf 52 = .ok (.iconst 1, 1) := by decide +kernel
theorem dX5_worthOf_53 : decode cX5_worthOf 53 = .ok (.goto 20, 3) := by decide +kernel
theorem dX5_worthOf_56 : decode cX5_worthOf 56 = .ok (.aload_n 0, 1) := by decide +kernel
theorem dX5_worthOf_57 : decode cX5_worthOf 57 = .ok (.aload_n 0, 1) := by decide +kernel
theorem dX5_worthOf_58 : decode cX5_worthOf 58 = .ok (.getfield 19, 3) := by decide +kernel
theorem dX5_worthOf_61 : decode cX5_worthOf 61 = .ok (.iload_n 3, 1) := by decide +kernel
theorem dX5_worthOf_62 : decode cX5_worthOf 62 = .ok (.iaload, 1) := by decide +kernel
theorem dX5_worthOf_63 : decode cX5_worthOf 63 = .ok (.aload_n 0, 1) := by decide +kernel
theorem dX5_worthOf_64 : decode cX5_worthOf 64 = .ok (.getfield 22, 3) := by decide +kernel
theorem dX5_worthOf_67 : decode cX5_worthOf 67 = .ok (.iload_n 3, 1) := by decide +kernel
theorem dX5_worthOf_68 : decode cX5_worthOf 68 = .ok (.iaload, 1) := by decide +kernel
theorem dX5_worthOf_69 : decode cX5_worthOf 69 = .ok (.aload_n 2, 1) := by decide +kernel
theorem dX5_worthOf_70 : decode cX5_worthOf 70 = .ok (.invokevirtual 47, 3) := by decide +kernel
theorem dX5_worthOf_73 : decode cX5_worthOf 73 = .ok (.istore 4, 2) := by decide +kernel
theorem dX5_worthOf_75 : decode cX5_worthOf 75 = .ok (.iload_n 1, 1) := by decide +kernel
theorem dX5_worthOf_76 : decode cX5_worthOf 76 = .ok (.ifCond .lt 19, 3) := by decide +kernel
theorem dX5_worthOf_79 : decode cX5_worthOf 79 = .ok (.iload_n 1, 1) := by decide +kernel
theorem dX5_worthOf_80 : decode cX5_worthOf 80 = .ok (.getstatic 51, 3) := by decide +kernel
theorem dX5_worthOf_83 : decode cX5_worthOf 83 = .ok (.arraylength, 1) := by decide +kernel
theorem dX5_worthOf_84 : decode cX5_worthOf 84 = .ok (.if_icmp .ge 11, 3) := by decide +kernel
theorem dX5_worthOf_87 : decode cX5_worthOf 87 = .ok (.getstatic 51, 3) := by decide +kernel
theorem dX5_worthOf_90 : decode cX5_worthOf 90 = .ok (.iload_n 1, 1) := by decide +kernel
theorem dX5_worthOf_91 : decode cX5_worthOf 91 = .ok (.iaload, 1) := by decide +kernel
theorem dX5_worthOf_92 : decode cX5_worthOf 92 = .ok (.goto 4, 3) := by decide +kernel
theorem dX5_worthOf_95 : decode cX5_worthOf 95 = .ok (.iconst 0, 1) := by decide +kernel
theorem dX5_worthOf_96 : decode cX5_worthOf 96 = .ok (.istore 5, 2) := by decide +kernel
theorem dX5_worthOf_98 : decode cX5_worthOf 98 = .ok (.iconst 0, 1) := by decide +kernel
theorem dX5_worthOf_99 : decode cX5_worthOf 99 = .ok (.iload 4, 2) := by decide +kernel
theorem dX5_worthOf_101 : decode cX5_worthOf 101 = .ok (.iload 5, 2) := by decide +kernel
theorem dX5_worthOf_103 : decode cX5_worthOf 103 = .ok (.invokestatic 54, 3) := by decide +kernel
theorem dX5_worthOf_106 : decode cX5_worthOf 106 = .ok (.invokestatic 60, 3) := by decide +kernel
theorem dX5_worthOf_109 : decode cX5_worthOf 109 = .ok (.ireturn, 1) := by decide +kernel
theorem dX5_worthOf_110 : decode cX5_worthOf 110 = .ok (.iinc 3 1, 3) := by decide +kernel
theorem dX5_worthOf_113 : decode cX5_worthOf 113 = .ok (.goto (-111), 3) := by decide +kernel
theorem dX5_worthOf_116 : decode cX5_worthOf 116 = .ok (.iconst 0, 1) := by decide +kernel
theorem dX5_worthOf_117 : decode cX5_worthOf 117 = .ok (.ireturn, 1) := by decide +kernel
theorem dX5_reckon_0 : decode cX5_reckon 0 = .ok (.iconst 0, 1) := by decide +kernel
theorem dX5_reckon_1 : decode cX5_reckon 1 = .ok (.istore 4, 2) := by decide +kernel
theorem dX5_reckon_3 : decode cX5_reckon 3 = .ok (.aload_n 0, 1) := by decide +kernel
theorem dX5_reckon_4 : decode cX5_reckon 4 = .ok (.iconst 0, 1) := by decide +kernel
theorem dX5_reckon_5 : decode cX5_reckon 5 = .ok (.putfield 37, 3) := by decide +kernel
theorem dX5_reckon_8 : decode cX5_reckon 8 = .ok (.iconst 0, 1) := by decide +kernel
theorem dX5_reckon_9 : decode cX5_reckon 9 = .ok (.iload_n 1, 1) := by decide +kernel
theorem dX5_reckon_10 : decode cX5_reckon 10 = .ok (.invokestatic 60, 3) := by decide +kernel
theorem dX5_reckon_13 : decode cX5_reckon 13 = .ok (.istore 5, 2) := by decide +kernel
theorem dX5_reckon_15 : decode cX5_reckon 15 = .ok (.iload 5, 2) := by decide +kernel
theorem dX5_reckon_17 : decode cX5_reckon 17 = .ok (.iload_n 2, 1) := by decide +kernel
theorem dX5_reckon_18 : decode cX5_reckon 18 = .ok (.if_icmp .ge 259, 3) := by decide +kernel
theorem dX5_reckon_21 : decode cX5_reckon 21 = .ok (.iload 5, 2) := by decide +kernel
theorem dX5_reckon_23 : decode cX5_reckon 23 = .ok (.sipush 240, 3) := by decide +kernel
theorem dX5_reckon_26 : decode cX5_reckon 26 = .ok (.if_icmp .ge 251, 3) := by decide +kernel
theorem dX5_reckon_29 : decode cX5_reckon 29 = .ok (.aload_n 0, 1) := by decide +kernel
theorem dX5_reckon_30 : decode cX5_reckon 30 = .ok (.getfield 37, 3) := by decide +kernel
theorem dX5_reckon_33 : decode cX5_reckon 33 = .ok (.ifCond .ne 244, 3) := by decide +kernel
theorem dX5_reckon_36 : decode cX5_reckon 36 = .ok (.aload_n 0, 1) := by decide +kernel
theorem dX5_reckon_37 : decode cX5_reckon 37 = .ok (.getfield 31, 3) := by decide +kernel
theorem dX5_reckon_40 : decode cX5_reckon 40 = .ok (.iload 5, 2) := by decide +kernel
theorem dX5_reckon_42 : decode cX5_reckon 42 = .ok (.iaload, 1) := by decide +kernel
theorem dX5_reckon_43 : decode cX5_reckon 43 = .ok (.bipush 15, 2) := by decide +kernel
theorem dX5_reckon_45 : decode cX5_reckon 45 = .ok (.iand, 1) := by decide +kernel
theorem dX5_reckon_46 : decode cX5_reckon 46 = .ok (.istore 6, 2) := by decide +kernel
theorem dX5_reckon_48 : decode cX5_reckon 48 = .ok (.aload_n 0, 1) := by decide +kernel
theorem dX5_reckon_49 : decode cX5_reckon 49 = .ok (.getfield 31, 3) := by decide +kernel
theorem dX5_reckon_52 : decode cX5_reckon 52 = .ok (.iload 5, 2) := by decide +kernel
theorem dX5_reckon_54 : decode cX5_reckon 54 = .ok (.iaload, 1) := by decide +kernel
theorem dX5_reckon_55 : decode cX5_reckon 55 = .ok (.iconst 4, 1) := by decide +kernel
theorem dX5_reckon_56 : decode cX5_reckon 56 = .ok (.ishr, 1) := by decide +kernel
theorem dX5_reckon_57 : decode cX5_reckon 57 = .ok (.istore 7, 2) := by decide +kernel
theorem dX5_reckon_59 : decode cX5_reckon 59 = .ok (.iload 6, 2) := by decide +kernel
theorem dX5_reckon_61 : decode cX5_reckon 61 = .ok (.ifCond .eq 9, 3) := by decide +kernel
theorem dX5_reckon_64 : decode cX5_reckon 64 = .ok (.iload 6, 2) := by decide +kernel
theorem dX5_reckon_66 : decode cX5_reckon 66 = .ok (.iconst 1, 1) := by decide +kernel
theorem dX5_reckon_67 : decode cX5_reckon 67 = .ok (.if_icmp .ne 66, 3) := by decide +kernel
theorem dX5_reckon_70 : decode cX5_reckon 70 = .ok (.aload_n 0, 1) := by decide +kernel
theorem dX5_reckon_71 : decode cX5_reckon 71 = .ok (.iload 4, 2) := by decide +kernel
theorem dX5_reckon_73 : decode cX5_reckon 73 = .ok (.bipush 64, 2) := by decide +kernel
theorem dX5_reckon_75 : decode cX5_reckon 75 = .ok (.if_icmp .ge 16, 3) := by decide +kernel
theorem dX5_reckon_78 : decode cX5_reckon 78 = .ok (.iload 6, 2) := by decide +kernel
theorem dX5_reckon_80 : decode cX5_reckon 80 = .ok (.iconst 1, 1) := by decide +kernel
theorem dX5_reckon_81 : decode cX5_reckon 81 = .ok (.if_icmp .ne 14, 3) := by decide +kernel
theorem dX5_reckon_84 : decode cX5_reckon 84 = .ok (.iload 7, 2) := by decide +kernel
theorem dX5_reckon_86 : decode cX5_reckon 86 = .ok (.aload_n 3, 1) := by decide +kernel
theorem dX5_reckon_87 : decode cX5_reckon 87 = .ok (.arraylength, 1) := by decide +kernel
theorem dX5_reckon_88 : decode cX5_reckon 88 = .ok (.if_icmp .lt 7, 3) := by decide +kernel
theorem dX5_reckon_91 : decode cX5_reckon 91 = .ok (.iconst 1, 1) := by decide +kernel
theorem dX5_reckon_92 : decode cX5_reckon 92 = .ok (.goto 4, 3) := by decide +kernel
theorem dX5_reckon_95 : decode cX5_reckon 95 = .ok (.iconst 0, 1) := by decide +kernel
theorem dX5_reckon_96 : decode cX5_reckon 96 = .ok (.putfield 37, 3) := by decide +kernel
theorem dX5_reckon_99 : decode cX5_reckon 99 = .ok (.aload_n 0, 1) := by decide +kernel
theorem dX5_reckon_100 : decode cX5_reckon 100 = .ok (.getfield 37, 3) := by decide +kernel
theorem dX5_reckon_103 : decode cX5_reckon 103 = .ok (.ifCond .ne 168, 3) := by decide +kernel
theorem dX5_reckon_106 : decode cX5_reckon 106 = .ok (.aload_n 0, 1) := by decide +kernel
theorem dX5_reckon_107 : decode cX5_reckon 107 = .ok (.getfield 34, 3) := by decide +kernel
theorem dX5_reckon_110 : decode cX5_reckon 110 = .ok (.iload 4, 2) := by decide +kernel
theorem dX5_reckon_112 : decode cX5_reckon 112 = .ok (.iload 6, 2) := by decide +kernel
theorem dX5_reckon_114 : decode cX5_reckon 114 = .ok (.ifCond .ne 8, 3) := by decide +kernel
theorem dX5_reckon_117 : decode cX5_reckon 117 = .ok (.iload 7, 2) := by decide +kernel
theorem dX5_reckon_119 : decode cX5_reckon 119 = .ok (.goto 7, 3) := by decide +kernel
theorem dX5_reckon_122 : decode cX5_reckon 122 = .ok (.aload_n 3, 1) := by decide +kernel
theorem dX5_reckon_123 : decode cX5_reckon 123 = .ok (.iload 7, 2) := by decide +kernel
theorem dX5_reckon_125 : decode cX5_reckon 125 = .ok (.iaload, 1) := by decide +kernel
theorem dX5_reckon_126 : decode cX5_reckon 126 = .ok (.iastore, 1) := by decide +kernel
theorem dX5_reckon_127 : decode cX5_reckon 127 = .ok (.iinc 4 1, 3) := by decide +kernel
theorem dX5_reckon_130 : decode cX5_reckon 130 = .ok (.goto 141, 3) := by decide +kernel
theorem dX5_reckon_133 : decode cX5_reckon 133 = .ok (.iload 4, 2) := by decide +kernel
theorem dX5_reckon_135 : decode cX5_reckon 135 = .ok (.iconst 1, 1) := by decide +kernel
theorem dX5_reckon_136 : decode cX5_reckon 136 = .ok (.if_icmp .lt 15, 3) := by decide +kernel
theorem dX5_reckon_139 : decode cX5_reckon 139 = .ok (.iload 6, 2) := by decide +kernel
theorem dX5_reckon_141 : decode cX5_reckon 141 = .ok (.iconst 5, 1) := by decide +kernel
theorem dX5_reckon_142 : decode cX5_reckon 142 = .ok (.if_icmp .lt 17, 3) := by decide +kernel
theorem dX5_reckon_145 : decode cX5_reckon 145 = .ok (.iload 4, 2) := by decide +kernel
theorem dX5_reckon_147 : decode cX5_reckon 147 = .ok (.iconst 2, 1) := by decide +kernel
theorem dX5_reckon_148 : decode cX5_reckon 148 = .ok (.if_icmp .ge 11, 3) := by decide +kernel
theorem dX5_reckon_151 : decode cX5_reckon 151 = .ok (.aload_n 0, 1) := by decide +kernel
theorem dX5_reckon_152 : decode cX5_reckon 152 = .ok (.iconst 1, 1) := by decide +kernel
theorem dX5_reckon_153 : decode cX5_reckon 153 = .ok (.putfield 37, 3) := by decide +kernel
theorem dX5_reckon_156 : decode cX5_reckon 156 = .ok (.goto 115, 3) := by decide +kernel
theorem dX5_reckon_159 : decode cX5_reckon 159 = .ok (.iload 6, 2) := by decide +kernel
theorem dX5_reckon_161 : decode cX5_reckon 161 = .ok (.iconst 2, 1) := by decide +kernel
theorem dX5_reckon_162 : decode cX5_reckon 162 = .ok (.if_icmp .ne 26, 3) := by decide +kernel
theorem dX5_reckon_165 : decode cX5_reckon 165 = .ok (.aload_n 0, 1) := by decide +kernel
theorem dX5_reckon_166 : decode cX5_reckon 166 = .ok (.getfield 34, 3) := by decide +kernel
theorem dX5_reckon_169 : decode cX5_reckon 169 = .ok (.iload 4, 2) := by decide +kernel
theorem dX5_reckon_171 : decode cX5_reckon 171 = .ok (.iconst 1, 1) := by decide +kernel
theorem dX5_reckon_172 : decode cX5_reckon 172 = .ok (.isub, 1) := by decide +kernel
theorem dX5_reckon_173 : decode cX5_reckon 173 = .ok (.iconst 1, 1) := by decide +kernel
theorem dX5_reckon_174 : decode cX5_reckon 174 = .ok (.aload_n 0, 1) := by decide +kernel
theorem dX5_reckon_175 : decode cX5_reckon 175 = .ok (.getfield 34, 3) := by decide +kernel
theorem dX5_reckon_178 : decode cX5_reckon 178 = .ok (.iload 4, 2) := by decide +kernel
theorem dX5_reckon_180 : decode cX5_reckon 180 = .ok (.iconst 1, 1) := by decide +kernel
theorem dX5_reckon_181 : decode cX5_reckon 181 = .ok (.isub, 1) := by decide +kernel
theorem dX5_reckon_182 : decode cX5_reckon 182 = .ok (.iaload, 1) := by decide +kernel
theorem dX5_reckon_183 : decode cX5_reckon 183 = .ok (.isub, 1) := by decide +kernel
theorem dX5_reckon_184 : decode cX5_reckon 184 = .ok (.iastore, 1) := by decide +kernel
theorem dX5_reckon_185 : decode cX5_reckon 185 = .ok (.goto 86, 3) := by decide +kernel
theorem dX5_reckon_188 : decode cX5_reckon 188 = .ok (.iload 6, 2) := by decide +kernel
theorem dX5_reckon_190 : decode cX5_reckon 190 = .ok (.iconst 5, 1) := by decide +kernel
theorem dX5_reckon_191 : decode cX5_reckon 191 = .ok (.if_icmp .lt 40, 3) := by decide +kernel
theorem dX5_reckon_194 : decode cX5_reckon 194 = .ok (.iinc 4 (-1), 3) := by decide +kernel
theorem dX5_reckon_197 : decode cX5_reckon 197 = .ok (.aload_n 0, 1) := by decide +kernel
theorem dX5_reckon_198 : decode cX5_reckon 198 = .ok (.getfield 34, 3) := by decide +kernel
theorem dX5_reckon_201 : decode cX5_reckon 201 = .ok (.iload 4, 2) := by decide +kernel
theorem dX5_reckon_203 : decode cX5_reckon 203 = .ok (.iconst 1, 1) := by decide +kernel
theorem dX5_reckon_204 : decode cX5_reckon 204 = .ok (.isub, 1) := by decide +kernel
theorem dX5_reckon_205 : decode cX5_reckon 205 = .ok (.aload_n 0, 1) := by decide +kernel
theorem dX5_reckon_206 : decode cX5_reckon 206 = .ok (.iload 6, 2) := by decide +kernel
theorem dX5_reckon_208 : decode cX5_reckon 208 = .ok (.aload_n 0, 1) := by decide +kernel
theorem dX5_reckon_209 : decode cX5_reckon 209 = .ok (.getfield 34, 3) := by decide +kernel
theorem dX5_reckon_212 : decode cX5_reckon 212 = .ok (.iload 4, 2) := by decide +kernel
theorem dX5_reckon_214 : decode cX5_reckon 214 = .ok (.iconst 1, 1) := by decide +kernel
theorem dX5_reckon_215 : decode cX5_reckon 215 = .ok (.isub, 1) := by decide +kernel
theorem dX5_reckon_216 : decode cX5_reckon 216 = .ok (.iaload, 1) := by decide +kernel
theorem dX5_reckon_217 : decode cX5_reckon 217 = .ok (.aload_n 0, 1) := by decide +kernel
theorem dX5_reckon_218 : decode cX5_reckon 218 = .ok (.getfield 34, 3) := by decide +kernel
theorem dX5_reckon_221 : decode cX5_reckon 221 = .ok (.iload 4, 2) := by decide +kernel
theorem dX5_reckon_223 : decode cX5_reckon 223 = .ok (.iaload, 1) := by decide +kernel
theorem dX5_reckon_224 : decode cX5_reckon 224 = .ok (.invokevirtual 63, 3) := by decide +kernel
theorem dX5_reckon_227 : decode cX5_reckon 227 = .ok (.iastore, 1) := by decide +kernel
theorem dX5_reckon_228 : decode cX5_reckon 228 = .ok (.goto 43, 3) := by decide +kernel
theorem dX5_reckon_231 : decode cX5_reckon 231 = .ok (.aload_n 0, 1) := by decide +kernel
theorem dX5_reckon_232 : decode cX5_reckon 232 = .ok (.getfield 34, 3) := by decide +kernel
theorem dX5_reckon_235 : decode cX5_reckon 235 = .ok (.iload 4, 2) := by decide +kernel
theorem dX5_reckon_237 : decode cX5_reckon 237 = .ok (.iconst 1, 1) := by decide +kernel
theorem dX5_reckon_238 : decode cX5_reckon 238 = .ok (.isub, 1) := by decide +kernel
theorem dX5_reckon_239 : decode cX5_reckon 239 = .ok (.iaload, 1) := by decide +kernel
theorem dX5_reckon_240 : decode cX5_reckon 240 = .ok (.iload 6, 2) := by decide +kernel
theorem dX5_reckon_242 : decode cX5_reckon 242 = .ok (.iconst 4, 1) := by decide +kernel
theorem dX5_reckon_243 : decode cX5_reckon 243 = .ok (.if_icmp .ne 7, 3) := by decide +kernel
theorem dX5_reckon_246 : decode cX5_reckon 246 = .ok (.iconst 1, 1) := by decide +kernel
theorem dX5_reckon_247 : decode cX5_reckon 247 = .ok (.goto 4, 3) := by decide +kernel
theorem dX5_reckon_250 : decode cX5_reckon 250 = .ok (.iconst 0, 1) := by decide +kernel
theorem dX5_reckon_251 : decode cX5_reckon 251 = .ok (.if_icmp .ne 17, 3) := by decide +kernel
theorem dX5_reckon_254 : decode cX5_reckon 254 = .ok (.iload 5, 2) := by decide +kernel
theorem dX5_reckon_256 : decode cX5_reckon 256 = .ok (.iload 7, 2) := by decide +kernel
theorem dX5_reckon_258 : decode cX5_reckon 258 = .ok (.iconst 1, 1) := by decide +kernel
theorem dX5_reckon_259 : decode cX5_reckon 259 = .ok (.isub, 1) := by decide +kernel
theorem dX5_reckon_260 : decode cX5_reckon 260 = .ok (.invokestatic 60, 3) := by decide +kernel
theorem dX5_reckon_263 : decode cX5_reckon 263 = .ok (.istore 5, 2) := by decide +kernel
theorem dX5_reckon_265 : decode cX5_reckon 265 = .ok (.goto 6, 3) := by decide +kernel
theorem dX5_reckon_268 : decode cX5_reckon 268 = .ok (.iinc 4 (-1), 3) := by decide +kernel
theorem dX5_reckon_271 : decode cX5_reckon 271 = .ok (.iinc 5 1, 3) := by decide +kernel
theorem dX5_reckon_274 : decode cX5_reckon 274 = .ok (.goto (-259), 3) := by decide +kernel
theorem dX5_reckon_277 : decode cX5_reckon 277 = .ok (.aload_n 0, 1) := by decide +kernel
theorem dX5_reckon_278 : decode cX5_reckon 278 = .ok (.getfield 37, 3) := by decide +kernel
theorem dX5_reckon_281 : decode cX5_reckon 281 = .ok (.ifCond .ne 9, 3) := by decide +kernel
theorem dX5_reckon_284 : decode cX5_reckon 284 = .ok (.iload 4, 2) := by decide +kernel
theorem dX5_reckon_286 : decode cX5_reckon 286 = .ok (.iconst 1, 1) := by decide +kernel
theorem dX5_reckon_287 : decode cX5_reckon 287 = .ok (.if_icmp .ge 7, 3) := by decide +kernel
theorem dX5_reckon_290 : decode cX5_reckon 290 = .ok (.iconst 0, 1) := by decide +kernel
theorem dX5_reckon_291 : decode cX5_reckon 291 = .ok (.goto 12, 3) := by decide +kernel
theorem dX5_reckon_294 : decode cX5_reckon 294 = .ok (.aload_n 0, 1) := by decide +kernel
theorem dX5_reckon_295 : decode cX5_reckon 295 = .ok (.getfield 34, 3) := by decide +kernel
theorem dX5_reckon_298 : decode cX5_reckon 298 = .ok (.iload 4, 2) := by decide +kernel
theorem dX5_reckon_300 : decode cX5_reckon 300 = .ok (.iconst 1, 1) := by decide +kernel
theorem dX5_reckon_301 : decode cX5_reckon 301 = .ok (.isub, 1) := by decide +kernel
theorem dX5_reckon_302 : decode cX5_reckon 302 = .ok (.iaload, 1) := by decide +kernel
theorem dX5_reckon_303 : decode cX5_reckon 303 = .ok (.ireturn, 1) := by decide +kernel
theorem dX5_joined_0 : decode cX5_joined 0 = .ok (.iload_n 1, 1) := by decide +kernel
theorem dX5_joined_1 : decode cX5_joined 1 = .ok (.iconst 5, 1) := by decide +kernel
theorem dX5_joined_2 : decode cX5_joined 2 = .ok (.isub, 1) := by decide +kernel
theorem dX5_joined_3 : decode cX5_joined 3 = .ok (.istore 4, 2) := by decide +kernel
theorem dX5_joined_5 : decode cX5_joined 5 = .ok (.iload 4, 2) := by decide +kernel
theorem dX5_joined_7 : decode cX5_joined 7 = .ok (.iconst 3, 1) := by decide +kernel
theorem dX5_joined_8 : decode cX5_joined 8 = .ok (.if_icmp .eq 9, 3) := by decide +kernel
theorem dX5_joined_11 : decode cX5_joined 11 = .ok (.iload 4, 2) := by decide +kernel
theorem dX5_joined_13 : decode cX5_joined 13 = .ok (.iconst 4, 1) := by decide +kernel
theorem dX5_joined_14 : decode cX5_joined 14 = .ok (.if_icmp .ne 14, 3) := by decide +kernel
theorem dX5_joined_17 : decode cX5_joined 17 = .ok (.iload_n 3, 1) := by decide +kernel
theorem dX5_joined_18 : decode cX5_joined 18 = .ok (.ifCond .ne 10, 3) := by decide +kernel
theorem dX5_joined_21 : decode cX5_joined 21 = .ok (.aload_n 0, 1) := by decide +kernel
theorem dX5_joined_22 : decode cX5_joined 22 = .ok (.iconst 1, 1) := by decide +kernel
theorem dX5_joined_23 : decode cX5_joined 23 = .ok (.putfield 37, 3) := by decide +kernel
theorem dX5_joined_26 : decode cX5_joined 26 = .ok (.iconst 0, 1) := by decide +kernel
theorem dX5_joined_27 : decode cX5_joined 27 = .ok (.ireturn, 1) := by decide +kernel
theorem dX5_joined_28 : decode cX5_joined 28 = .ok (.iload 4, 2) := by decide +kernel
theorem dX5_joined_30 : decode cX5_joined 30 = .ok (.tableswitch 100 0 6 #[42, 46, 50, 54, 66, 78, 89], 42) := by decide +kernel
theorem dX5_joined_72 : decode cX5_joined 72 = .ok (.iload_n 2, 1) := by decide +kernel
theorem dX5_joined_73 : decode cX5_joined 73 = .ok (.iload_n 3, 1) := by decide +kernel
theorem dX5_joined_74 : decode cX5_joined 74 = .ok (.iadd, 1) := by decide +kernel
theorem dX5_joined_75 : decode cX5_joined 75 = .ok (.ireturn, 1) := by decide +kernel
theorem dX5_joined_76 : decode cX5_joined 76 = .ok (.iload_n 2, 1) := by decide +kernel
theorem dX5_joined_77 : decode cX5_joined 77 = .ok (.iload_n 3, 1) := by decide +kernel
theorem dX5_joined_78 : decode cX5_joined 78 = .ok (.isub, 1) := by decide +kernel
theorem dX5_joined_79 : decode cX5_joined 79 = .ok (.ireturn, 1) := by decide +kernel
theorem dX5_joined_80 : decode cX5_joined 80 = .ok (.iload_n 2, 1) := by decide +kernel
theorem dX5_joined_81 : decode cX5_joined 81 = .ok (.iload_n 3, 1) := by decide +kernel
theorem dX5_joined_82 : decode cX5_joined 82 = .ok (.imul, 1) := by decide +kernel
theorem dX5_joined_83 : decode cX5_joined 83 = .ok (.ireturn, 1) := by decide +kernel
theorem dX5_joined_84 : decode cX5_joined 84 = .ok (.iload_n 3, 1) := by decide +kernel
theorem dX5_joined_85 : decode cX5_joined 85 = .ok (.ifCond .ne 7, 3) := by decide +kernel
theorem dX5_joined_88 : decode cX5_joined 88 = .ok (.iconst 0, 1) := by decide +kernel
theorem dX5_joined_89 : decode cX5_joined 89 = .ok (.goto 6, 3) := by decide +kernel
theorem dX5_joined_92 : decode cX5_joined 92 = .ok (.iload_n 2, 1) := by decide +kernel
theorem dX5_joined_93 : decode cX5_joined 93 = .ok (.iload_n 3, 1) := by decide +kernel
theorem dX5_joined_94 : decode cX5_joined 94 = .ok (.idiv, 1) := by decide +kernel
theorem dX5_joined_95 : decode cX5_joined 95 = .ok (.ireturn, 1) := by decide +kernel
theorem dX5_joined_96 : decode cX5_joined 96 = .ok (.iload_n 3, 1) := by decide +kernel
theorem dX5_joined_97 : decode cX5_joined 97 = .ok (.ifCond .ne 7, 3) := by decide +kernel
theorem dX5_joined_100 : decode cX5_joined 100 = .ok (.iconst 0, 1) := by decide +kernel
theorem dX5_joined_101 : decode cX5_joined 101 = .ok (.goto 6, 3) := by decide +kernel
theorem dX5_joined_104 : decode cX5_joined 104 = .ok (.iload_n 2, 1) := by decide +kernel
theorem dX5_joined_105 : decode cX5_joined 105 = .ok (.iload_n 3, 1) := by decide +kernel
theorem dX5_joined_106 : decode cX5_joined 106 = .ok (.irem, 1) := by decide +kernel
theorem dX5_joined_107 : decode cX5_joined 107 = .ok (.ireturn, 1) := by decide +kernel
theorem dX5_joined_108 : decode cX5_joined 108 = .ok (.iload_n 2, 1) := by decide +kernel
theorem dX5_joined_109 : decode cX5_joined 109 = .ok (.iload_n 3, 1) := by decide +kernel
theorem dX5_joined_110 : decode cX5_joined 110 = .ok (.if_icmp .ge 7, 3) := by decide +kernel
theorem dX5_joined_113 : decode cX5_joined 113 = .ok (.iconst 1, 1) := by decide +kernel
theorem dX5_joined_114 : decode cX5_joined 114 = .ok (.goto 4, 3) := by decide +kernel
theorem dX5_joined_117 : decode cX5_joined 117 = .ok (.iconst 0, 1) := by decide +kernel
theorem dX5_joined_118 : decode cX5_joined 118 = .ok (.ireturn, 1) := by decide +kernel
theorem dX5_joined_119 : decode cX5_joined 119 = .ok (.iload_n 2, 1) := by decide +kernel
theorem dX5_joined_120 : decode cX5_joined 120 = .ok (.iload_n 3, 1) := by decide +kernel
theorem dX5_joined_121 : decode cX5_joined 121 = .ok (.if_icmp .le 7, 3) := by decide +kernel
theorem dX5_joined_124 : decode cX5_joined 124 = .ok (.iconst 1, 1) := by decide +kernel
theorem dX5_joined_125 : decode cX5_joined 125 = .ok (.goto 4, 3) := by decide +kernel
theorem dX5_joined_128 : decode cX5_joined 128 = .ok (.iconst 0, 1) := by decide +kernel
theorem dX5_joined_129 : decode cX5_joined 129 = .ok (.ireturn, 1) := by decide +kernel
theorem dX5_joined_130 : decode cX5_joined 130 = .ok (.iload_n 2, 1) := by decide +kernel
theorem dX5_joined_131 : decode cX5_joined 131 = .ok (.iload_n 3, 1) := by decide +kernel
theorem dX5_joined_132 : decode cX5_joined 132 = .ok (.if_icmp .ne 7, 3) := by decide +kernel
theorem dX5_joined_135 : decode cX5_joined 135 = .ok (.iconst 1, 1) := by decide +kernel
theorem dX5_joined_136 : decode cX5_joined 136 = .ok (.goto 4, 3) := by decide +kernel
theorem dX5_joined_139 : decode cX5_joined 139 = .ok (.iconst 0, 1) := by decide +kernel
theorem dX5_joined_140 : decode cX5_joined 140 = .ok (.ireturn, 1) := by decide +kernel
theorem dX6_init_0 : decode cX6_init 0 = .ok (.aload_n 0, 1) := by decide +kernel
theorem dX6_init_1 : decode cX6_init 1 = .ok (.invokespecial 3, 3) := by decide +kernel
theorem dX6_init_4 : decode cX6_init 4 = .ok (.aload_n 0, 1) := by decide +kernel
theorem dX6_init_5 : decode cX6_init 5 = .ok (.new 9, 3) := by decide +kernel
theorem dX6_init_8 : decode cX6_init 8 = .ok (.dup, 1) := by decide +kernel
theorem dX6_init_9 : decode cX6_init 9 = .ok (.invokespecial 11, 3) := by decide +kernel
theorem dX6_init_12 : decode cX6_init 12 = .ok (.putfield 12, 3) := by decide +kernel
theorem dX6_init_15 : decode cX6_init 15 = .ok (.aload_n 0, 1) := by decide +kernel
theorem dX6_init_16 : decode cX6_init 16 = .ok (.iconst 0, 1) := by decide +kernel
theorem dX6_init_17 : decode cX6_init 17 = .ok (.newarray .int, 2) := by decide +kernel
theorem dX6_init_19 : decode cX6_init 19 = .ok (.putfield 18, 3) := by decide +kernel
theorem dX6_init_22 : decode cX6_init 22 = .ok (.aload_n 0, 1) := by decide +kernel
theorem dX6_init_23 : decode cX6_init 23 = .ok (.iconst 0, 1) := by decide +kernel
theorem dX6_init_24 : decode cX6_init 24 = .ok (.putfield 22, 3) := by decide +kernel
theorem dX6_init_27 : decode cX6_init 27 = .ok (.aload_n 0, 1) := by decide +kernel
theorem dX6_init_28 : decode cX6_init 28 = .ok (.iconst 0, 1) := by decide +kernel
theorem dX6_init_29 : decode cX6_init 29 = .ok (.putfield 26, 3) := by decide +kernel
theorem dX6_init_32 : decode cX6_init 32 = .ok (.aload_n 0, 1) := by decide +kernel
theorem dX6_init_33 : decode cX6_init 33 = .ok (.iconst 0, 1) := by decide +kernel
theorem dX6_init_34 : decode cX6_init 34 = .ok (.putfield 29, 3) := by decide +kernel
theorem dX6_init_37 : decode cX6_init 37 = .ok (.return_, 1) := by decide +kernel
theorem dX6_read_0 : decode cX6_read 0 = .ok (.aload_n 0, 1) := by decide +kernel
theorem dX6_read_1 : decode cX6_read 1 = .ok (.aload_n 1, 1) := by decide +kernel
theorem dX6_read_2 : decode cX6_read 2 = .ok (.putfield 18, 3) := by decide +kernel
theorem dX6_read_5 : decode cX6_read 5 = .ok (.aload_n 0, 1) := by decide +kernel
theorem dX6_read_6 : decode cX6_read 6 = .ok (.iload_n 2, 1) := by decide +kernel
theorem dX6_read_7 : decode cX6_read 7 = .ok (.aload_n 1, 1) := by decide +kernel
theorem dX6_read_8 : decode cX6_read 8 = .ok (.arraylength, 1) := by decide +kernel
theorem dX6_read_9 : decode cX6_read 9 = .ok (.invokestatic 32, 3) := by decide +kernel
theorem dX6_read_12 : decode cX6_read 12 = .ok (.putfield 22, 3) := by decide +kernel
theorem dX6_read_15 : decode cX6_read 15 = .ok (.aload_n 0, 1) := by decide +kernel
theorem dX6_read_16 : decode cX6_read 16 = .ok (.iconst 0, 1) := by decide +kernel
theorem dX6_read_17 : decode cX6_read 17 = .ok (.putfield 26, 3) := by decide +kernel
theorem dX6_read_20 : decode cX6_read 20 = .ok (.aload_n 0, 1) := by decide +kernel
theorem dX6_read_21 : decode cX6_read 21 = .ok (.iconst 0, 1) := by decide +kernel
theorem dX6_read_22 : decode cX6_read 22 = .ok (.putfield 29, 3) := by decide +kernel
theorem dX6_read_25 : decode cX6_read 25 = .ok (.aload_n 0, 1) := by decide +kernel
theorem dX6_read_26 : decode cX6_read 26 = .ok (.getfield 12, 3) := by decide +kernel
theorem dX6_read_29 : decode cX6_read 29 = .ok (.invokevirtual 38, 3) := by decide +kernel
theorem dX6_read_32 : decode cX6_read 32 = .ok (.aload_n 0, 1) := by decide +kernel
theorem dX6_read_33 : decode cX6_read 33 = .ok (.invokevirtual 41, 3) := by decide +kernel
theorem dX6_read_36 : decode cX6_read 36 = .ok (.iconst 0, 1) := by decide +kernel
theorem dX6_read_37 : decode cX6_read 37 = .ok (.istore_n 3, 1) := by decide +kernel
theorem dX6_read_38 : decode cX6_read 38 = .ok (.iload_n 3, 1) := by decide +kernel
theorem dX6_read_39 : decode cX6_read 39 = .ok (.sipush 240, 3) := by decide +kernel
theorem dX6_read_42 : decode cX6_read 42 = .ok (.if_icmp .ge 37, 3) := by decide +kernel
theorem dX6_read_45 : decode cX6_read 45 = .ok (.aload_n 0, 1) := by decide +kernel
theorem dX6_read_46 : decode cX6_read 46 = .ok (.getfield 29, 3) := by decide +kernel
theorem dX6_read_49 : decode cX6_read 49 = .ok (.ifCond .ne 30, 3) := by decide +kernel
theorem dX6_read_52 : decode cX6_read 52 = .ok (.aload_n 0, 1) := by decide +kernel
theorem dX6_read_53 : decode cX6_read 53 = .ok (.getfield 26, 3) := by decide +kernel
theorem dX6_read_56 : decode cX6_read 56 = .ok (.aload_n 0, 1) := by decide +kernel
theorem dX6_read_57 : decode cX6_read 57 = .ok (.getfield 22, 3) := by decide +kernel
theorem dX6_read_60 : decode cX6_read 60 = .ok (.if_icmp .ge 19, 3) := by decide +kernel
theorem dX6_read_63 : decode cX6_read 63 = .ok (.aload_n 0, 1) := by decide +kernel
theorem dX6_read_64 : decode cX6_read 64 = .ok (.bipush 59, 2) := by decide +kernel
theorem dX6_read_66 : decode cX6_read 66 = .ok (.invokevirtual 44, 3) := by decide +kernel
theorem dX6_read_69 : decode cX6_read 69 = .ok (.aload_n 0, 1) := by decide +kernel
theorem dX6_read_70 : decode cX6_read 70 = .ok (.invokevirtual 41, 3) := by decide +kernel
theorem dX6_read_73 : decode cX6_read 73 = .ok (.iinc 3 1, 3) := by decide +kernel
theorem dX6_read_76 : decode cX6_read 76 = .ok (.goto (-38), 3) := by decide +kernel
theorem dX6_read_79 : decode cX6_read 79 = .ok (.aload_n 0, 1) := by decide +kernel
theorem dX6_read_80 : decode cX6_read 80 = .ok (.getfield 29, 3) := by decide +kernel
theorem dX6_read_83 : decode cX6_read 83 = .ok (.ifCond .eq 10, 3) := by decide +kernel
theorem dX6_read_86 : decode cX6_read 86 = .ok (.aload_n 0, 1) := by decide +kernel
theorem dX6_read_87 : decode cX6_read 87 = .ok (.getfield 29, 3) := by decide +kernel
theorem dX6_read_90 : decode cX6_read 90 = .ok (.goto 10, 3) := by decide +kernel
theorem dX6_read_93 : decode cX6_read 93 = .ok (.aload_n 0, 1) := by decide +kernel
theorem dX6_read_94 : decode cX6_read 94 = .ok (.getfield 12, 3) := by decide +kernel
theorem dX6_read_97 : decode cX6_read 97 = .ok (.getfield 48, 3) := by decide +kernel
theorem dX6_read_100 : decode cX6_read 100 = .ok (.ireturn, 1) := by decide +kernel
theorem dX6_readClause_0 : decode cX6_readClause 0 = .ok (.aload_n 0, 1) := by decide +kernel
theorem dX6_readClause_1 : decode cX6_readClause 1 = .ok (.ldc 51, 2) := by decide +kernel
theorem dX6_readClause_3 : decode cX6_readClause 3 = .ok (.invokevirtual 53, 3) := by decide +kernel
theorem dX6_readClause_6 : decode cX6_readClause 6 = .ok (.istore_n 1, 1) := by decide +kernel
theorem dX6_readClause_7 : decode cX6_readClause 7 = .ok (.iload_n 1, 1) := by decide +kernel
theorem dX6_readClause_8 : decode cX6_readClause 8 = .ok (.ifCond .ge 11, 3) := by decide +kernel
theorem dX6_readClause_11 : decode cX6_readClause 11 = .ok (.aload_n 0, 1) := by decide +kernel
theorem dX6_readClause_12 : decode cX6_readClause 12 = .ok (.iconst 1, 1) := by decide +kernel
theorem dX6_readClause_13 : decode cX6_readClause 13 = .ok (.invokevirtual 57, 3) := by decide +kernel
theorem dX6_readClause_16 : decode cX6_readClause 16 = .ok (.goto 20, 3) := by decide +kernel
theorem dX6_readClause_19 : decode cX6_readClause 19 = .ok (.aload_n 0, 1) := by decide +kernel
theorem dX6_readClause_20 : decode cX6_readClause 20 = .ok (.getfield 12, 3) := by decide +kernel
theorem dX6_readClause_23 : decode cX6_readClause 23 = .ok (.getfield 48, 3) := by decide +kernel
theorem dX6_readClause_26 : decode cX6_readClause 26 = .ok (.bipush 16, 2) := by decide +kernel
theorem dX6_readClause_28 : decode cX6_readClause 28 = .ok (.if_icmp .lt 8, 3) := by decide +kernel
theorem dX6_readClause_31 : decode cX6_readClause 31 = .ok (.aload_n 0, 1) := by decide +kernel
theorem dX6_readClause_32 : decode cX6_readClause 32 = .ok (.iconst 4, 1) := by decide +kernel
theorem dX6_readClause_33 : decode cX6_readClause 33 = .ok (.invokevirtual 57, 3) := by decide +kernel
theorem dX6_readClause_36 : decode cX6_readClause 36 = .ok (.aload_n 0, 1) := by decide +kernel
theorem dX6_readClause_37 : decode cX6_readClause 37 = .ok (.dup, 1) := by decide +kernel
theorem dX6_readClause_38 : decode cX6_readClause 38 = .ok (.getfield 26, 3) := by decide +kernel
theorem dX6_readClause_41 : decode cX6_readClause 41 = .ok (.iconst 1, 1) := by decide +kernel
theorem dX6_readClause_42 : decode cX6_readClause 42 = .ok (.iadd, 1) := by decide +kernel
theorem dX6_readClause_43 : decode cX6_readClause 43 = .ok (.putfield 26, 3) := by decide +kernel
theorem dX6_readClause_46 : decode cX6_readClause 46 = .ok (.aload_n 0, 1) := by decide +kernel
theorem dX6_readClause_47 : decode cX6_readClause 47 = .ok (.getfield 12, 3) := by decide +kernel
theorem dX6_readClause_50 : decode cX6_readClause 50 = .ok (.getfield 60, 3) := by decide +kernel
theorem dX6_readClause_53 : decode cX6_readClause 53 = .ok (.istore_n 2, 1) := by decide +kernel
theorem dX6_readClause_54 : decode cX6_readClause 54 = .ok (.iload_n 1, 1) := by decide +kernel
theorem dX6_readClause_55 : decode cX6_readClause 55 = .ok (.bipush 6, 2) := by decide +kernel
theorem dX6_readClause_57 : decode cX6_readClause 57 = .ok (.if_icmp .eq 8, 3) := by decide +kernel
theorem dX6_readClause_60 : decode cX6_readClause 60 = .ok (.aload_n 0, 1) := by decide +kernel
theorem dX6_readClause_61 : decode cX6_readClause 61 = .ok (.iconst 0, 1) := by decide +kernel
theorem dX6_readClause_62 : decode cX6_readClause 62 = .ok (.invokevirtual 61, 3) := by decide +kernel
theorem dX6_readClause_65 : decode cX6_readClause 65 = .ok (.aload_n 0, 1) := by decide +kernel
theorem dX6_readClause_66 : decode cX6_readClause 66 = .ok (.getfield 12, 3) := by decide +kernel
theorem dX6_readClause_69 : decode cX6_readClause 69 = .ok (.getfield 60, 3) := by decide +kernel
theorem dX6_readClause_72 : decode cX6_readClause 72 = .ok (.istore_n 3, 1) := by decide +kernel
theorem dX6_readClause_73 : decode cX6_readClause 73 = .ok (.aload_n 0, 1) := by decide +kernel
theorem dX6_readClause_74 : decode cX6_readClause 74 = .ok (.bipush 40, 2) := by decide +kernel
theorem dX6_readClause_76 : decode cX6_readClause 76 = .ok (.invokevirtual 44, 3) := by decide +kernel
theorem dX6_readClause_79 : decode cX6_readClause 79 = .ok (.aload_n 0, 1) := by decide +kernel
theorem dX6_readClause_80 : decode cX6_readClause 80 = .ok (.iconst 1, 1) := by decide +kernel
theorem dX6_readClause_81 : decode cX6_readClause 81 = .ok (.invokevirtual 64, 3) := by decide +kernel
theorem dX6_readClause_84 : decode cX6_readClause 84 = .ok (.aload_n 0, 1) := by decide +kernel
theorem dX6_readClause_85 : decode cX6_readClause 85 = .ok (.bipush 41, 2) := by decide +kernel
theorem dX6_readClause_87 : decode cX6_readClause 87 = .ok (.invokevirtual 44, 3) := by decide +kernel
theorem dX6_readClause_90 : decode cX6_readClause 90 = .ok (.aload_n 0, 1) := by decide +kernel
theorem dX6_readClause_91 : decode cX6_readClause 91 = .ok (.getfield 12, 3) := by decide +kernel
theorem dX6_readClause_94 : decode cX6_readClause 94 = .ok (.iload_n 1, 1) := by decide +kernel
theorem dX6_readClause_95 : decode cX6_readClause 95 = .ok (.iload_n 2, 1) := by decide +kernel
theorem dX6_readClause_96 : decode cX6_readClause 96 = .ok (.iload_n 3, 1) := by decide +kernel
theorem dX6_readClause_97 : decode cX6_readClause 97 = .ok (.invokevirtual 67, 3) := by decide +kernel
theorem dX6_readClause_100 : decode cX6_readClause 100 = .ok (.return_, 1) := by decide +kernel
theorem dX6_readCondition_0 : decode cX6_readCondition 0 = .ok (.aload_n 0, 1) := by decide +kernel
theorem dX6_readCondition_1 : decode cX6_readCondition 1 = .ok (.iload_n 1, 1) := by decide +kernel
theorem dX6_readCondition_2 : decode cX6_readCondition 2 = .ok (.invokevirtual 71, 3) := by decide +kernel
theorem dX6_readCondition_5 : decode cX6_readCondition 5 = .ok (.iconst 0, 1) := by decide +kernel
theorem dX6_readCondition_6 : decode cX6_readCondition 6 = .ok (.istore_n 2, 1) := by decide +kernel
theorem dX6_readCondition_7 : decode cX6_readCondition 7 = .ok (.iload_n 2, 1) := by decide +kernel
theorem dX6_readCondition_8 : decode cX6_readCondition 8 = .ok (.sipush 240, 3) := by decide +kernel
theorem dX6_readCondition_11 : decode cX6_readCondition 11 = .ok (.if_icmp .ge 65, 3) := by decide +kernel
theorem dX6_readCondition_14 : decode cX6_readCondition 14 = .ok (.aload_n 0, 1) := by decide +kernel
theorem dX6_readCondition_15 : decode cX6_readCondition 15 = .ok (.getfield 29, 3) := by decide +kernel
theorem dX6_readCondition_18 : decode cX6_readCondition 18 = .ok (.ifCond .ne 58, 3) := by decide +kernel
theorem dX6_readCondition_21 : decode cX6_readCondition 21 = .ok (.aload_n 0, 1) := by decide +kernel
theorem dX6_readCondition_22 : decode cX6_readCondition 22 = .ok (.invokevirtual 74, 3) := by decide +kernel
theorem dX6_readCondition_25 : decode cX6_readCondition 25 = .ok (.bipush 124, 2) := by decide +kernel
theorem dX6_readCondition_27 : decode cX6_readCondition 27 = .ok (.if_icmp .ne 49, 3) := by decide +kernel
theorem dX6_readCondition_30 : decode cX6_readCondition 30 = .ok (.aload_n 0, 1) := by decide +kernel
theorem dX6_readCondition_31 : decode cX6_readCondition 31 = .ok (.getfield 12, 3) := by decide +kernel
theorem dX6_readCondition_34 : decode cX6_readCondition 34 = .ok (.getfield 60, 3) := by decide +kernel
theorem dX6_readCondition_37 : decode cX6_readCondition 37 = .ok (.istore_n 3, 1) := by decide +kernel
theorem dX6_readCondition_38 : decode cX6_readCondition 38 = .ok (.aload_n 0, 1) := by decide +kernel
theorem dX6_readCondition_39 : decode cX6_readCondition 39 = .ok (.getfield 12, 3) := by decide +kernel
theorem dX6_readCondition_42 : decode cX6_readCondition 42 = .ok (.iconst 4, 1) := by decide +kernel
theorem dX6_readCondition_43 : decode cX6_readCondition 43 = .ok (.iconst 0, 1) := by decide +kernel
theorem dX6_readCondition_44 : decode cX6_readCondition 44 = .ok (.invokevirtual 78, 3) := by decide +kernel
theorem dX6_readCondition_47 : decode cX6_readCondition 47 = .ok (.aload_n 0, 1) := by decide +kernel
theorem dX6_readCondition_48 : decode cX6_readCondition 48 = .ok (.dup, 1) := by decide +kernel
theorem dX6_readCondition_49 : decode cX6_readCondition 49 = .ok (.getfield 26, 3) := by decide +kernel
theorem dX6_readCondition_52 : decode cX6_readCondition 52 = .ok (.iconst 1, 1) := by decide +kernel
theorem dX6_readCondition_53 : decode cX6_readCondition 53 = .ok (.iadd, 1) := by decide +kernel
theorem dX6_readCondition_54 : decode cX6_readCondition 54 = .ok (.putfield 26, 3) := by decide +kernel
theorem dX6_readCondition_57 : decode cX6_readCondition 57 = .ok (.aload_n 0, 1) := by decide +kernel
theorem dX6_readCondition_58 : decode cX6_readCondition 58 = .ok (.iload_n 1, 1) := by decide +kernel
theorem dX6_readCondition_59 : decode cX6_readCondition 59 = .ok (.invokevirtual 71, 3) := by decide +kernel
theorem dX6_readCondition_62 : decode cX6_readCondition 62 = .ok (.aload_n 0, 1) := by decide +kernel
theorem dX6_readCondition_63 : decode cX6_readCondition 63 = .ok (.getfield 12, 3) := by decide +kernel
theorem dX6_readCondition_66 : decode cX6_readCondition 66 = .ok (.iload_n 3, 1) := by decide +kernel
theorem dX6_readCondition_67 : decode cX6_readCondition 67 = .ok (.invokevirtual 82, 3) := by decide +kernel
theorem dX6_readCondition_70 : decode cX6_readCondition 70 = .ok (.iinc 2 1, 3) := by decide +kernel
theorem dX6_readCondition_73 : decode cX6_readCondition 73 = .ok (.goto (-66), 3) := by decide +kernel
theorem dX6_readCondition_76 : decode cX6_readCondition 76 = .ok (.return_, 1) := by decide +kernel
theorem dX6_readPart_0 : decode cX6_readPart 0 = .ok (.aload_n 0, 1) := by decide +kernel
theorem dX6_readPart_1 : decode cX6_readPart 1 = .ok (.iload_n 1, 1) := by decide +kernel
theorem dX6_readPart_2 : decode cX6_readPart 2 = .ok (.invokevirtual 85, 3) := by decide +kernel
theorem dX6_readPart_5 : decode cX6_readPart 5 = .ok (.iconst 0, 1) := by decide +kernel
theorem dX6_readPart_6 : decode cX6_readPart 6 = .ok (.istore_n 2, 1) := by decide +kernel
theorem dX6_readPart_7 : decode cX6_readPart 7 = .ok (.iload_n 2, 1) := by decide +kernel
theorem dX6_readPart_8 : decode cX6_readPart 8 = .ok (.sipush 240, 3) := by decide +kernel
theorem dX6_readPart_11 : decode cX6_readPart 11 = .ok (.if_icmp .ge 65, 3) := by decide +kernel
theorem dX6_readPart_14 : decode cX6_readPart 14 = .ok (.aload_n 0, 1) := by decide +kernel
theorem dX6_readPart_15 : decode cX6_readPart 15 = .ok (.getfield 29, 3) := by decide +kernel
theorem dX6_readPart_18 : decode cX6_readPart 18 = .ok (.ifCond .ne 58, 3) := by decide +kernel
theorem dX6_readPart_21 : decode cX6_readPart 21 = .ok (.aload_n 0, 1) := by decide +kernel
theorem dX6_readPart_22 : decode cX6_readPart 22 = .ok (.invokevirtual 74, 3) := by decide +kernel
theorem dX6_readPart_25 : decode cX6_readPart 25 = .ok (.bipush 38, 2) := by decide +kernel
theorem dX6_readPart_27 : decode cX6_readPart 27 = .ok (.if_icmp .ne 49, 3) := by decide +kernel
theorem dX6_readPart_30 : decode cX6_readPart 30 = .ok (.aload_n 0, 1) := by decide +kernel
theorem dX6_readPart_31 : decode cX6_readPart 31 = .ok (.getfield 12, 3) := by decide +kernel
theorem dX6_readPart_34 : decode cX6_readPart 34 = .ok (.getfield 60, 3) := by decide +kernel
theorem dX6_readPart_37 : decode cX6_readPart 37 = .ok (.istore_n 3, 1) := by decide +kernel
theorem dX6_readPart_38 : decode cX6_readPart 38 = .ok (.aload_n 0, 1) := by decide +kernel
theorem dX6_readPart_39 : decode cX6_readPart 39 = .ok (.getfield 12, 3) := by decide +kernel
theorem dX6_readPart_42 : decode cX6_readPart 42 = .ok (.iconst 3, 1) := by decide +kernel
theorem dX6_readPart_43 : decode cX6_readPart 43 = .ok (.iconst 0, 1) := by decide +kernel
theorem dX6_readPart_44 : decode cX6_readPart 44 = .ok (.invokevirtual 78, 3) := by decide +kernel
theorem dX6_readPart_47 : decode cX6_readPart 47 = .ok (.aload_n 0, 1) := by decide +kernel
theorem dX6_readPart_48 : decode cX6_readPart 48 = .ok (.dup, 1) := by decide +kernel
theorem dX6_readPart_49 : decode cX6_readPart 49 = .ok (.getfield 26, 3) := by decide +kernel
theorem dX6_readPart_52 : decode cX6_readPart 52 = .ok (.iconst 1, 1) := by decide +kernel
theorem dX6_readPart_53 : decode cX6_readPart 53 = .ok (.iadd, 1) := by decide +kernel
theorem dX6_readPart_54 : decode cX6_readPart 54 = .ok (.putfield 26, 3) := by decide +kernel
theorem dX6_readPart_57 : decode cX6_readPart 57 = .ok (.aload_n 0, 1) := by decide +kernel
theorem dX6_readPart_58 : decode cX6_readPart 58 = .ok (.iload_n 1, 1) := by decide +kernel
theorem dX6_readPart_59 : decode cX6_readPart 59 = .ok (.invokevirtual 85, 3) := by decide +kernel
theorem dX6_readPart_62 : decode cX6_readPart 62 = .ok (.aload_n 0, 1) := by decide +kernel
theorem dX6_readPart_63 : decode cX6_readPart 63 = .ok (.getfield 12, 3) := by decide +kernel
theorem dX6_readPart_66 : decode cX6_readPart 66 = .ok (.iload_n 3, 1) := by decide +kernel
theorem dX6_readPart_67 : decode cX6_readPart 67 = .ok (.invokevirtual 82, 3) := by decide +kernel
theorem dX6_readPart_70 : decode cX6_readPart 70 = .ok (.iinc 2 1, 3) := by decide +kernel
theorem dX6_readPart_73 : decode cX6_readPart 73 = .ok (.goto (-66), 3) := by decide +kernel
theorem dX6_readPart_76 : decode cX6_readPart 76 = .ok (.return_, 1) := by decide +kernel
theorem dX6_readTest_0 : decode cX6_readTest 0 = .ok (.aload_n 0, 1) := by decide +kernel
theorem dX6_readTest_1 : decode cX6_readTest 1 = .ok (.getfield 29, 3) := by decide +kernel
theorem dX6_readTest_4 : decode cX6_readTest 4 = .ok (.ifCond .eq 4, 3) := by decide +kernel
theorem dX6_readTest_7 : decode cX6_readTest 7 = .ok (.return_, 1) := by decide +kernel
theorem dX6_readTest_8 : decode cX6_readTest 8 = .ok (.aload_n 0, 1) := by decide +kernel
theorem dX6_readTest_9 : decode cX6_readTest 9 = .ok (.invokevirtual 74, 3) := by decide +kernel
theorem dX6_readTest_12 : decode cX6_readTest 12 = .ok (.bipush 33, 2) := by decide +kernel
theorem dX6_readTest_14 : decode cX6_readTest 14 = .ok (.if_icmp .ne 27, 3) := by decide +kernel
theorem dX6_readTest_17 : decode cX6_readTest 17 = .ok (.aload_n 0, 1) := by decide +kernel
theorem dX6_readTest_18 : decode cX6_readTest 18 = .ok (.iload_n 1, 1) := by decide +kernel
theorem dX6_readTest_19 : decode cX6_readTest 19 = .ok (.invokevirtual 88, 3) := by decide +kernel
theorem dX6_readTest_22 : decode cX6_readTest 22 = .ok (.aload_n 0, 1) := by decide +kernel
theorem dX6_readTest_23 : decode cX6_readTest 23 = .ok (.iload_n 1, 1) := by decide +kernel
theorem dX6_readTest_24 : decode cX6_readTest 24 = .ok (.iconst 1, 1) := by decide +kernel
theorem dX6_readTest_25 : decode cX6_readTest 25 = .ok (.iadd, 1) := by decide +kernel
theorem dX6_readTest_26 : decode cX6_readTest 26 = .ok (.invokevirtual 85, 3) := by decide +kernel
theorem dX6_readTest_29 : decode cX6_readTest 29 = .ok (.aload_n 0, 1) := by decide +kernel
theorem dX6_readTest_30 : decode cX6_readTest 30 = .ok (.getfield 12, 3) := by decide +kernel
theorem dX6_readTest_33 : decode cX6_readTest 33 = .ok (.iconst 2, 1) := by decide +kernel
theorem dX6_readTest_34 : decode cX6_readTest 34 = .ok (.iconst 0, 1) := by decide +kernel
theorem dX6_readTest_35 : decode cX6_readTest 35 = .ok (.invokevirtual 78, 3) := by decide +kernel
theorem dX6_readTest_38 : decode cX6_readTest 38 = .ok (.goto 93, 3) := by decide +kernel
theorem dX6_readTest_41 : decode cX6_readTest 41 = .ok (.aload_n 0, 1) := by decide +kernel
theorem dX6_readTest_42 : decode cX6_readTest 42 = .ok (.invokevirtual 74, 3) := by decide +kernel
theorem dX6_readTest_45 : decode cX6_readTest 45 = .ok (.bipush 40, 2) := by decide +kernel
theorem dX6_readTest_47 : decode cX6_readTest 47 = .ok (.if_icmp .ne 24, 3) := by decide +kernel
theorem dX6_readTest_50 : decode cX6_readTest 50 = .ok (.aload_n 0, 1) := by decide +kernel
theorem dX6_readTest_51 : decode cX6_readTest 51 = .ok (.iload_n 1, 1) := by decide +kernel
theorem dX6_readTest_52 : decode cX6_readTest 52 = .ok (.invokevirtual 88, 3) := by decide +kernel
theorem dX6_readTest_55 : decode cX6_readTest 55 = .ok (.aload_n 0, 1) := by decide +kernel
theorem dX6_readTest_56 : decode cX6_readTest 56 = .ok (.iload_n 1, 1) := by decide +kernel
theorem dX6_readTest_57 : decode cX6_readTest 57 = .ok (.iconst 1, 1) := by decide +kernel
theorem dX6_readTest_58 : decode cX6_readTest 58 = .ok (.iadd, 1) := by decide +kernel
theorem dX6_readTest_59 : decode cX6_readTest 59 = .ok (.invokevirtual 64, 3) := by decide +kernel
theorem dX6_readTest_62 : decode cX6_readTest 62 = .ok (.aload_n 0, 1) := by decide +kernel
theorem dX6_readTest_63 : decode cX6_readTest 63 = .ok (.bipush 41, 2) := by decide +kernel
theorem dX6_readTest_65 : decode cX6_readTest 65 = .ok (.invokevirtual 44, 3) := by decide +kernel
theorem dX6_readTest_68 : decode cX6_readTest 68 = .ok (.goto 63, 3) := by decide +kernel
theorem dX6_readTest_71 : decode cX6_readTest 71 = .ok (.aload_n 0, 1) := by decide +kernel
theorem dX6_readTest_72 : decode cX6_readTest 72 = .ok (.iload_n 1, 1) := by decide +kernel
theorem dX6_readTest_73 : decode cX6_readTest 73 = .ok (.invokevirtual 61, 3) := by decide +kernel
theorem dX6_readTest_76 : decode cX6_readTest 76 = .ok (.aload_n 0, 1) := by decide +kernel
theorem dX6_readTest_77 : decode cX6_readTest 77 = .ok (.ldc 91, 2) := by decide +kernel
theorem dX6_readTest_79 : decode cX6_readTest 79 = .ok (.invokevirtual 53, 3) := by decide +kernel
theorem dX6_readTest_82 : decode cX6_readTest 82 = .ok (.ifCond .ge 7, 3) := by decide +kernel
theorem dX6_readTest_85 : decode cX6_readTest 85 = .ok (.iconst (-1), 1) := by decide +kernel
theorem dX6_readTest_86 : decode cX6_readTest 86 = .ok (.goto 9, 3) := by decide +kernel
theorem dX6_readTest_89 : decode cX6_readTest 89 = .ok (.aload_n 0, 1) := by decide +kernel
theorem dX6_readTest_90 : decode cX6_readTest 90 = .ok (.ldc 93, 2) := by decide +kernel
theorem dX6_readTest_92 : decode cX6_readTest 92 = .ok (.invokevirtual 53, 3) := by decide +kernel
theorem dX6_readTest_95 : decode cX6_readTest 95 = .ok (.istore_n 2, 1) := by decide +kernel
theorem dX6_readTest_96 : decode cX6_readTest 96 = .ok (.iload_n 2, 1) := by decide +kernel
theorem dX6_readTest_97 : decode cX6_readTest 97 = .ok (.ifCond .ge 8, 3) := by decide +kernel
theorem dX6_readTest_100 : decode cX6_readTest 100 = .ok (.aload_n 0, 1) := by decide +kernel
theorem dX6_readTest_101 : decode cX6_readTest 101 = .ok (.iconst 1, 1) := by decide +kernel
theorem dX6_readTest_102 : decode cX6_readTest 102 = .ok (.invokevirtual 57, 3) := by decide +kernel
theorem dX6_readTest_105 : decode cX6_readTest 105 = .ok (.aload_n 0, 1) := by decide +kernel
theorem dX6_readTest_106 : decode cX6_readTest 106 = .ok (.dup, 1) := by decide +kernel
theorem dX6_readTest_107 : decode cX6_readTest 107 = .ok (.getfield 26, 3) := by decide +kernel
theorem dX6_readTest_110 : decode cX6_readTest 110 = .ok (.iconst 1, 1) := by decide +kernel
theorem dX6_readTest_111 : decode cX6_readTest 111 = .ok (.iadd, 1) := by decide +kernel
theorem dX6_readTest_112 : decode cX6_readTest 112 = .ok (.putfield 26, 3) := by decide +kernel
theorem dX6_readTest_115 : decode cX6_readTest 115 = .ok (.aload_n 0, 1) := by decide +kernel
theorem dX6_readTest_116 : decode cX6_readTest 116 = .ok (.iload_n 1, 1) := by decide +kernel
theorem dX6_readTest_117 : decode cX6_readTest 117 = .ok (.invokevirtual 61, 3) := by decide +kernel
theorem dX6_readTest_120 : decode cX6_readTest 120 = .ok (.aload_n 0, 1) := by decide +kernel
theorem dX6_readTest_121 : decode cX6_readTest 121 = .ok (.getfield 12, 3) := by decide +kernel
theorem dX6_readTest_124 : decode cX6_readTest 124 = .ok (.iconst 5, 1) := by decide +kernel
theorem dX6_readTest_125 : decode cX6_readTest 125 = .ok (.iload_n 2, 1) := by decide +kernel
theorem dX6_readTest_126 : decode cX6_readTest 126 = .ok (.iadd, 1) := by decide +kernel
theorem dX6_readTest_127 : decode cX6_readTest 127 = .ok (.iconst 0, 1) := by decide +kernel
theorem dX6_readTest_128 : decode cX6_readTest 128 = .ok (.invokevirtual 78, 3) := by decide +kernel
theorem dX6_readTest_131 : decode cX6_readTest 131 = .ok (.return_, 1) := by decide +kernel
theorem dX6_readSum_0 : decode cX6_readSum 0 = .ok (.aload_n 0, 1) := by decide +kernel
theorem dX6_readSum_1 : decode cX6_readSum 1 = .ok (.iload_n 1, 1) := by decide +kernel
theorem dX6_readSum_2 : decode cX6_readSum 2 = .ok (.invokevirtual 95, 3) := by decide +kernel
theorem dX6_readSum_5 : decode cX6_readSum 5 = .ok (.iconst 0, 1) := by decide +kernel
theorem dX6_readSum_6 : decode cX6_readSum 6 = .ok (.istore_n 2, 1) := by decide +kernel
theorem dX6_readSum_7 : decode cX6_readSum 7 = .ok (.iload_n 2, 1) := by decide +kernel
theorem dX6_readSum_8 : decode cX6_readSum 8 = .ok (.sipush 240, 3) := by decide +kernel
theorem dX6_readSum_11 : decode cX6_readSum 11 = .ok (.if_icmp .ge 58, 3) := by decide +kernel
theorem dX6_readSum_14 : decode cX6_readSum 14 = .ok (.aload_n 0, 1) := by decide +kernel
theorem dX6_readSum_15 : decode cX6_readSum 15 = .ok (.getfield 29, 3) := by decide +kernel
theorem dX6_readSum_18 : decode cX6_readSum 18 = .ok (.ifCond .ne 51, 3) := by decide +kernel
theorem dX6_readSum_21 : decode cX6_readSum 21 = .ok (.aload_n 0, 1) := by decide +kernel
theorem dX6_readSum_22 : decode cX6_readSum 22 = .ok (.ldc 98, 2) := by decide +kernel
theorem dX6_readSum_24 : decode cX6_readSum 24 = .ok (.invokevirtual 53, 3) := by decide +kernel
theorem dX6_readSum_27 : decode cX6_readSum 27 = .ok (.ifCond .lt 42, 3) := by decide +kernel
theorem dX6_readSum_30 : decode cX6_readSum 30 = .ok (.aload_n 0, 1) := by decide +kernel
theorem dX6_readSum_31 : decode cX6_readSum 31 = .ok (.ldc 93, 2) := by decide +kernel
theorem dX6_readSum_33 : decode cX6_readSum 33 = .ok (.invokevirtual 53, 3) := by decide +kernel
theorem dX6_readSum_36 : decode cX6_readSum 36 = .ok (.istore_n 3, 1) := by decide +kernel
theorem dX6_readSum_37 : decode cX6_readSum 37 = .ok (.aload_n 0, 1) := by decide +kernel
theorem dX6_readSum_38 : decode cX6_readSum 38 = .ok (.dup, 1) := by decide +kernel
theorem dX6_readSum_39 : decode cX6_readSum 39 = .ok (.getfield 26, 3) := by decide +kernel
theorem dX6_readSum_42 : decode cX6_readSum 42 = .ok (.iconst 1, 1) := by decide +kernel
theorem dX6_readSum_43 : decode cX6_readSum 43 = .ok (.iadd, 1) := by decide +kernel
theorem dX6_readSum_44 : decode cX6_readSum 44 = .ok (.putfield 26, 3) := by decide +kernel
theorem dX6_readSum_47 : decode cX6_readSum 47 = .ok (.aload_n 0, 1) := by decide +kernel
theorem dX6_readSum_48 : decode cX6_readSum 48 = .ok (.iload_n 1, 1) := by decide +kernel
theorem dX6_readSum_49 : decode cX6_readSum 49 = .ok (.invokevirtual 95, 3) := by decide +kernel
theorem dX6_readSum_52 : decode cX6_readSum 52 = .ok (.aload_n 0, 1) := by decide +kernel
theorem dX6_readSum_53 : decode cX6_readSum 53 = .ok (.getfield 12, 3) := by decide +kernel
theorem dX6_readSum_56 : decode cX6_readSum 56 = .ok (.iconst 5, 1) := by decide +kernel
theorem dX6_readSum_57 : decode cX6_readSum 57 = .ok (.iload_n 3, 1) := by decide +kernel
theorem dX6_readSum_58 : decode cX6_readSum 58 = .ok (.iadd, 1) := by decide +kernel
theorem dX6_readSum_59 : decode cX6_readSum 59 = .ok (.iconst 0, 1) := by decide +kernel
theorem dX6_readSum_60 : decode cX6_readSum 60 = .ok (.invokevirtual 78, 3) := by decide +kernel
theorem dX6_readSum_63 : decode cX6_readSum 63 = .ok (.iinc 2 1, 3) := by decide +kernel
theorem dX6_readSum_66 : decode cX6_readSum 66 = .ok (.goto (-59), 3) := by decide +kernel
theorem dX6_readSum_69 : decode cX6_readSum 69 = .ok (.return_, 1) := by decide +kernel
theorem dX6_readProduct_0 : decode cX6_readProduct 0 = .ok (.aload_n 0, 1) := by decide +kernel
theorem dX6_readProduct_1 : decode cX6_readProduct 1 = .ok (.iload_n 1, 1) := by decide +kernel
theorem dX6_readProduct_2 : decode cX6_readProduct 2 = .ok (.invokevirtual 100, 3) := by decide +kernel
theorem dX6_readProduct_5 : decode cX6_readProduct 5 = .ok (.iconst 0, 1) := by decide +kernel
theorem dX6_readProduct_6 : decode cX6_readProduct 6 = .ok (.istore_n 2, 1) := by decide +kernel
theorem dX6_readProduct_7 : decode cX6_readProduct 7 = .ok (.iload_n 2, 1) := by decide +kernel
theorem dX6_readProduct_8 : decode cX6_readProduct 8 = .ok (.sipush 240, 3) := by decide +kernel
theorem dX6_readProduct_11 : decode cX6_readProduct 11 = .ok (.if_icmp .ge 58, 3) := by decide +kernel
theorem dX6_readProduct_14 : decode cX6_readProduct 14 = .ok (.aload_n 0, 1) := by decide +kernel
theorem dX6_readProduct_15 : decode cX6_readProduct 15 = .ok (.getfield 29, 3) := by decide +kernel
theorem dX6_readProduct_18 : decode cX6_readProduct 18 = .ok (.ifCond .ne 51, 3) := by decide +kernel
theorem dX6_readProduct_21 : decode cX6_readProduct 21 = .ok (.aload_n 0, 1) := by decide +kernel
theorem dX6_readProduct_22 : decode cX6_readProduct 22 = .ok (.ldc 103, 2) := by decide +kernel
theorem dX6_readProduct_24 : decode cX6_readProduct 24 = .ok (.invokevirtual 53, 3) := by decide +kernel
theorem dX6_readProduct_27 : decode cX6_readProduct 27 = .ok (.ifCond .lt 42, 3) := by decide +kernel
theorem dX6_readProduct_30 : decode cX6_readProduct 30 = .ok (.aload_n 0, 1) := by decide +kernel
theorem dX6_readProduct_31 : decode cX6_readProduct 31 = .ok (.ldc 93, 2) := by decide +kernel
theorem dX6_readProduct_33 : decode cX6_readProduct 33 = .ok (.invokevirtual 53, 3) := by decide +kernel
theorem dX6_readProduct_36 : decode cX6_readProduct 36 = .ok (.istore_n 3, 1) := by decide +kernel
theorem dX6_readProduct_37 : decode cX6_readProduct 37 = .ok (.aload_n 0, 1) := by decide +kernel
theorem dX6_readProduct_38 : decode cX6_readProduct 38 = .ok (.dup, 1) := by decide +kernel
theorem dX6_readProduct_39 : decode cX6_readProduct 39 = .ok (.getfield 26, 3) := by decide +kernel
theorem dX6_readProduct_42 : decode cX6_readProduct 42 = .ok (.iconst 1, 1) := by decide +kernel
theorem dX6_readProduct_43 : decode cX6_readProduct 43 = .ok (.iadd, 1) := by decide +kernel
theorem dX6_readProduct_44 : decode cX6_readProduct 44 = .ok (.putfield 26, 3) := by decide +kernel
theorem dX6_readProduct_47 : decode cX6_readProduct 47 = .ok (.aload_n 0, 1) := by decide +kernel
theorem dX6_readProduct_48 : decode cX6_readProduct 48 = .ok (.iload_n 1, 1) := by decide +kernel
theorem dX6_readProduct_49 : decode cX6_readProduct 49 = .ok (.invokevirtual 100, 3) := by decide +kernel
theorem dX6_readProduct_52 : decode cX6_readProduct 52 = .ok (.aload_n 0, 1) := by decide +kernel
theorem dX6_readProduct_53 : decode cX6_readProduct 53 = .ok (.getfield 12, 3) := by decide +kernel
theorem dX6_readProduct_56 : decode cX6_readProduct 56 = .ok (.iconst 5, 1) := by decide +kernel
theorem dX6_readProduct_57 : decode cX6_readProduct 57 = .ok (.iload_n 3, 1) := by decide +kernel
theorem dX6_readProduct_58 : decode cX6_readProduct 58 = .ok (.iadd, 1) := by decide +kernel
theorem dX6_readProduct_59 : decode cX6_readProduct 59 = .ok (.iconst 0, 1) := by decide +kernel
theorem dX6_readProduct_60 : decode cX6_readProduct 60 = .ok (.invokevirtual 78, 3) := by decide +kernel
theorem dX6_readProduct_63 : decode cX6_readProduct 63 = .ok (.iinc 2 1, 3) := by decide +kernel
theorem dX6_readProduct_66 : decode cX6_readProduct 66 = .ok (.goto (-59), 3) := by decide +kernel
theorem dX6_readProduct_69 : decode cX6_readProduct 69 = .ok (.return_, 1) := by decide +kernel
theorem dX6_readFactor_0 : decode cX6_readFactor 0 = .ok (.aload_n 0, 1) := by decide +kernel
theorem dX6_readFactor_1 : decode cX6_readFactor 1 = .ok (.getfield 29, 3) := by decide +kernel
theorem dX6_readFactor_4 : decode cX6_readFactor 4 = .ok (.ifCond .eq 4, 3) := by decide +kernel
theorem dX6_readFactor_7 : decode cX6_readFactor 7 = .ok (.return_, 1) := by decide +kernel
theorem dX6_readFactor_8 : decode cX6_readFactor 8 = .ok (.aload_n 0, 1) := by decide +kernel
theorem dX6_readFactor_9 : decode cX6_readFactor 9 = .ok (.ldc 107, 2) := by decide +kernel
theorem dX6_readFactor_11 : decode cX6_readFactor 11 = .ok (.invokevirtual 53, 3) := by decide +kernel
theorem dX6_readFactor_14 : decode cX6_readFactor 14 = .ok (.istore_n 2, 1) := by decide +kernel
theorem dX6_readFactor_15 : decode cX6_readFactor 15 = .ok (.aload_n 0, 1) := by decide +kernel
theorem dX6_readFactor_16 : decode cX6_readFactor 16 = .ok (.invokevirtual 74, 3) := by decide +kernel
theorem dX6_readFactor_19 : decode cX6_readFactor 19 = .ok (.bipush 91, 2) := by decide +kernel
theorem dX6_readFactor_21 : decode cX6_readFactor 21 = .ok (.if_icmp .ne 24, 3) := by decide +kernel
theorem dX6_readFactor_24 : decode cX6_readFactor 24 = .ok (.aload_n 0, 1) := by decide +kernel
theorem dX6_readFactor_25 : decode cX6_readFactor 25 = .ok (.iload_n 1, 1) := by decide +kernel
theorem dX6_readFactor_26 : decode cX6_readFactor 26 = .ok (.invokevirtual 88, 3) := by decide +kernel
theorem dX6_readFactor_29 : decode cX6_readFactor 29 = .ok (.aload_n 0, 1) := by decide +kernel
theorem dX6_readFactor_30 : decode cX6_readFactor 30 = .ok (.iload_n 1, 1) := by decide +kernel
theorem dX6_readFactor_31 : decode cX6_readFactor 31 = .ok (.iconst 1, 1) := by decide +kernel
theorem dX6_readFactor_32 : decode cX6_readFactor 32 = .ok (.iadd, 1) := by decide +kernel
theorem dX6_readFactor_33 : decode cX6_readFactor 33 = .ok (.invokevirtual 61, 3) := by decide +kernel
theorem dX6_readFactor_36 : decode cX6_readFactor 36 = .ok (.aload_n 0, 1) := by decide +kernel
theorem dX6_readFactor_37 : decode cX6_readFactor 37 = .ok (.bipush 93, 2) := by decide +kernel
theorem dX6_readFactor_39 : decode cX6_readFactor 39 = .ok (.invokevirtual 44, 3) := by decide +kernel
theorem dX6_readFactor_42 : decode cX6_readFactor 42 = .ok (.goto 33, 3) := by decide +kernel
theorem dX6_readFactor_45 : decode cX6_readFactor 45 = .ok (.iload_n 2, 1) := by decide +kernel
theorem dX6_readFactor_46 : decode cX6_readFactor 46 = .ok (.ifCond .lt 25, 3) := by decide +kernel
theorem dX6_readFactor_49 : decode cX6_readFactor 49 = .ok (.aload_n 0, 1) := by decide +kernel
theorem dX6_readFactor_50 : decode cX6_readFactor 50 = .ok (.getfield 12, 3) := by decide +kernel
theorem dX6_readFactor_53 : decode cX6_readFactor 53 = .ok (.iconst 1, 1) := by decide +kernel
theorem dX6_readFactor_54 : decode cX6_readFactor 54 = .ok (.iload_n 2, 1) := by decide +kernel
theorem dX6_readFactor_55 : decode cX6_readFactor 55 = .ok (.invokevirtual 78, 3) := by decide +kernel
theorem dX6_readFactor_58 : decode cX6_readFactor 58 = .ok (.aload_n 0, 1) := by decide +kernel
theorem dX6_readFactor_59 : decode cX6_readFactor 59 = .ok (.dup, 1) := by decide +kernel
theorem dX6_readFactor_60 : decode cX6_readFactor 60 = .ok (.getfield 26, 3) := by decide +kernel
theorem dX6_readFactor_63 : decode cX6_readFactor 63 = .ok (.iconst 1, 1) := by decide +kernel
theorem dX6_readFactor_64 : decode cX6_readFactor 64 = .ok (.iadd, 1) := by decide +kernel
theorem dX6_readFactor_65 : decode cX6_readFactor 65 = .ok (.putfield 26, 3) := by decide +kernel
theorem dX6_readFactor_68 : decode cX6_readFactor 68 = .ok (.goto 7, 3) := by decide +kernel
theorem dX6_readFactor_71 : decode cX6_readFactor 71 = .ok (.aload_n 0, 1) := by decide +kernel
theorem dX6_readFactor_72 : decode cX6_readFactor 72 = .ok (.invokevirtual 109, 3) := by decide +kernel
theorem dX6_readFactor_75 : decode cX6_readFactor 75 = .ok (.return_, 1) := by decide +kernel
theorem dX6_readNumber_0 : decode cX6_readNumber 0 = .ok (.iconst 0, 1) := by decide +kernel
theorem dX6_readNumber_1 : decode cX6_readNumber 1 = .ok (.istore_n 1, 1) := by decide +kernel
theorem dX6_readNumber_2 : decode cX6_readNumber 2 = .ok (.iconst 0, 1) := by decide +kernel
theorem dX6_readNumber_3 : decode cX6_readNumber 3 = .ok (.istore_n 2, 1) := by decide +kernel
theorem dX6_readNumber_4 : decode cX6_readNumber 4 = .ok (.iload_n 2, 1) := by decide +kernel
theorem dX6_readNumber_5 : decode cX6_readNumber 5 = .ok (.iconst 5, 1) := by decide +kernel
theorem dX6_readNumber_6 : decode cX6_readNumber 6 = .ok (.if_icmp .ge 39, 3) := by decide +kernel
theorem dX6_readNumber_9 : decode cX6_readNumber 9 = .ok (.aload_n 0, 1) := by decide +kernel
theorem dX6_readNumber_10 : decode cX6_readNumber 10 = .ok (.invokevirtual 112, 3) := by decide +kernel
theorem dX6_readNumber_13 : decode cX6_readNumber 13 = .ok (.ifCond .eq 32, 3) := by decide +kernel
theorem dX6_readNumber_16 : decode cX6_readNumber 16 = .ok (.bipush 10, 2) := by decide +kernel
theorem dX6_readNumber_18 : decode cX6_readNumber 18 = .ok (.iload_n 1, 1) := by decide +kernel
theorem dX6_readNumber_19 : decode cX6_readNumber 19 = .ok (.imul, 1) := by decide +kernel
theorem dX6_readNumber_20 : decode cX6_readNumber 20 = .ok (.aload_n 0, 1) := by decide +kernel
theorem dX6_readNumber_21 : decode cX6_readNumber 21 = .ok (.invokevirtual 74, 3) := by decide +kernel
theorem dX6_readNumber_24 : decode cX6_readNumber 24 = .ok (.iadd, 1) := by decide +kernel
theorem dX6_readNumber_25 : decode cX6_readNumber 25 = .ok (.bipush 48, 2) := by decide +kernel
theorem dX6_readNumber_27 : decode cX6_readNumber 27 = .ok (.isub, 1) := by decide +kernel
theorem dX6_readNumber_28 : decode cX6_readNumber 28 = .ok (.istore_n 1, 1) := by decide +kernel
theorem dX6_readNumber_29 : decode cX6_readNumber 29 = .ok (.aload_n 0, 1) := by decide +kernel
theorem dX6_readNumber_30 : decode cX6_readNumber 30 = .ok (.dup, 1) := by decide +kernel
theorem dX6_readNumber_31 : decode cX6_readNumber 31 = .ok (.getfield 26, 3) := by decide +kernel
theorem dX6_readNumber_34 : decode cX6_readNumber 34 = .ok (.iconst 1, 1) := by decide +kernel
theorem dX6_readNumber_35 : decode cX6_readNumber 35 = .ok (.iadd, 1) := by decide +kernel
theorem dX6_readNumber_36 : decode cX6_readNumber 36 = .ok (.putfield 26, 3) := by decide +kernel
theorem dX6_readNumber_39 : decode cX6_readNumber 39 = .ok (.iinc 2 1, 3) := by decide +kernel
theorem dX6_readNumber_42 : decode cX6_readNumber 42 = .ok (.goto (-38), 3) := by decide +kernel
theorem dX6_readNumber_45 : decode cX6_readNumber 45 = .ok (.iload_n 2, 1) := by decide +kernel
theorem dX6_readNumber_46 : decode cX6_readNumber 46 = .ok (.ifCond .ne 11, 3) := by decide +kernel
theorem dX6_readNumber_49 : decode cX6_readNumber 49 = .ok (.aload_n 0, 1) := by decide +kernel
theorem dX6_readNumber_50 : decode cX6_readNumber 50 = .ok (.iconst 1, 1) := by decide +kernel
theorem dX6_readNumber_51 : decode cX6_readNumber 51 = .ok (.invokevirtual 57, 3) := by decide +kernel
theorem dX6_readNumber_54 : decode cX6_readNumber 54 = .ok (.goto 15, 3) := by decide +kernel
theorem dX6_readNumber_57 : decode cX6_readNumber 57 = .ok (.aload_n 0, 1) := by decide +kernel
theorem dX6_readNumber_58 : decode cX6_readNumber 58 = .ok (.invokevirtual 112, 3) := by decide +kernel
theorem dX6_readNumber_61 : decode cX6_readNumber 61 = .ok (.ifCond .eq 8, 3) := by decide +kernel
theorem dX6_readNumber_64 : decode cX6_readNumber 64 = .ok (.aload_n 0, 1) := by decide +kernel
theorem dX6_readNumber_65 : decode cX6_readNumber 65 = .ok (.iconst 2, 1) := by decide +kernel
theorem dX6_readNumber_66 : decode cX6_readNumber 66 = .ok (.invokevirtual 57, 3) := by decide +kernel
theorem dX6_readNumber_69 : decode cX6_readNumber 69 = .ok (.aload_n 0, 1) := by decide +kernel
theorem dX6_readNumber_70 : decode cX6_readNumber 70 = .ok (.getfield 12, 3) := by decide +kernel
theorem dX6_readNumber_73 : decode cX6_readNumber 73 = .ok (.iconst 0, 1) := by decide +kernel
theorem dX6_readNumber_74 : decode cX6_readNumber 74 = .ok (.iload_n 1, 1) := by decide +kernel
theorem dX6_readNumber_75 : decode cX6_readNumber 75 = .ok (.invokevirtual 78, 3) := by decide +kernel
theorem dX6_readNumber_78 : decode cX6_readNumber 78 = .ok (.return_, 1) := by decide +kernel
theorem dX6_isDigit_0 : decode cX6_isDigit 0 = .ok (.aload_n 0, 1) := by decide +kernel
theorem dX6_isDigit_1 : decode cX6_isDigit 1 = .ok (.invokevirtual 74, 3) := by decide +kernel
theorem dX6_isDigit_4 : decode cX6_isDigit 4 = .ok (.bipush 48, 2) := by decide +kernel
theorem dX6_isDigit_6 : decode cX6_isDigit 6 = .ok (.if_icmp .lt 16, 3) := by decide +kernel
theorem dX6_isDigit_9 : decode cX6_isDigit 9 = .ok (.aload_n 0, 1) := by decide +kernel
theorem dX6_isDigit_10 : decode cX6_isDigit 10 = .ok (.invokevirtual 74, 3) := by decide +kernel
theorem dX6_isDigit_13 : decode cX6_isDigit 13 = .ok (.bipush 57, 2) := by decide +kernel
theorem dX6_isDigit_15 : decode cX6_isDigit 15 = .ok (.if_icmp .gt 7, 3) := by decide +kernel
theorem dX6_isDigit_18 : decode cX6_isDigit 18 = .ok (.iconst 1, 1) := by decide +kernel
theorem dX6_isDigit_19 : decode cX6_isDigit 19 = .ok (.goto 4, 3) := by decide +kernel
theorem dX6_isDigit_22 : decode cX6_isDigit 22 = .ok (.iconst 0, 1) := by decide +kernel
theorem dX6_isDigit_23 : decode cX6_isDigit 23 = .ok (.ireturn, 1) := by decide +kernel
theorem dX6_openAt_0 : decode cX6_openAt 0 = .ok (.iload_n 1, 1) := by decide +kernel
theorem dX6_openAt_1 : decode cX6_openAt 1 = .ok (.bipush 6, 2) := by decide +kernel
theorem dX6_openAt_3 : decode cX6_openAt 3 = .ok (.if_icmp .lt 8, 3) := by decide +kernel
theorem dX6_openAt_6 : decode cX6_openAt 6 = .ok (.aload_n 0, 1) := by decide +kernel
theorem dX6_openAt_7 : decode cX6_openAt 7 = .ok (.iconst 5, 1) := by decide +kernel
theorem dX6_openAt_8 : decode cX6_openAt 8 = .ok (.invokevirtual 57, 3) := by decide +kernel
theorem dX6_openAt_11 : decode cX6_openAt 11 = .ok (.aload_n 0, 1) := by decide +kernel
theorem dX6_openAt_12 : decode cX6_openAt 12 = .ok (.dup, 1) := by decide +kernel
theorem dX6_openAt_13 : decode cX6_openAt 13 = .ok (.getfield 26, 3) := by decide +kernel
theorem dX6_openAt_16 : decode cX6_openAt 16 = .ok (.iconst 1, 1) := by decide +kernel
theorem dX6_openAt_17 : decode cX6_openAt 17 = .ok (.iadd, 1) := by decide +kernel
theorem dX6_openAt_18 : decode cX6_openAt 18 = .ok (.putfield 26, 3) := by decide +kernel
theorem dX6_openAt_21 : decode cX6_openAt 21 = .ok (.return_, 1) := by decide +kernel
theorem dX6_take_0 : decode cX6_take 0 = .ok (.aload_n 0, 1) := by decide +kernel
theorem dX6_take_1 : decode cX6_take 1 = .ok (.invokevirtual 74, 3) := by decide +kernel
theorem dX6_take_4 : decode cX6_take 4 = .ok (.iload_n 1, 1) := by decide +kernel
theorem dX6_take_5 : decode cX6_take 5 = .ok (.if_icmp .eq 8, 3) := by decide +kernel
theorem dX6_take_8 : decode cX6_take 8 = .ok (.aload_n 0, 1) := by decide +kernel
theorem dX6_take_9 : decode cX6_take 9 = .ok (.iconst 1, 1) := by decide +kernel
theorem dX6_take_10 : decode cX6_take 10 = .ok (.invokevirtual 57, 3) := by decide +kernel
theorem dX6_take_13 : decode cX6_take 13 = .ok (.aload_n 0, 1) := by decide +kernel
theorem dX6_take_14 : decode cX6_take 14 = .ok (.dup, 1) := by decide +kernel
theorem dX6_take_15 : decode cX6_take 15 = .ok (.getfield 26, 3) := by decide +kernel
theorem dX6_take_18 : decode cX6_take 18 = .ok (.iconst 1, 1) := by decide +kernel
theorem dX6_take_19 : decode cX6_take 19 = .ok (.iadd, 1) := by decide +kernel
theorem dX6_take_20 : decode cX6_take 20 = .ok (.putfield 26, 3) := by decide +kernel
theorem dX6_take_23 : decode cX6_take 23 = .ok (.return_, 1) := by decide +kernel
theorem dX6_sign_0 : decode cX6_sign 0 = .ok (.aload_n 0, 1) := by decide +kernel
theorem dX6_sign_1 : decode cX6_sign 1 = .ok (.getfield 26, 3) := by decide +kernel
theorem dX6_sign_4 : decode cX6_sign 4 = .ok (.ifCond .lt 38, 3) := by decide +kernel
theorem dX6_sign_7 : decode cX6_sign 7 = .ok (.aload_n 0, 1) := by decide +kernel
theorem dX6_sign_8 : decode cX6_sign 8 = .ok (.getfield 26, 3) := by decide +kernel
theorem dX6_sign_11 : decode cX6_sign 11 = .ok (.aload_n 0, 1) := by decide +kernel
theorem dX6_sign_12 : decode cX6_sign 12 = .ok (.getfield 22, 3) := by decide +kernel
theorem dX6_sign_15 : decode cX6_sign 15 = .ok (.if_icmp .ge 27, 3) := by decide +kernel
theorem dX6_sign_18 : decode cX6_sign 18 = .ok (.aload_n 0, 1) := by decide +kernel
theorem dX6_sign_19 : decode cX6_sign 19 = .ok (.getfield 26, 3) := by decide +kernel
theorem dX6_sign_22 : decode cX6_sign 22 = .ok (.aload_n 0, 1) := by decide +kernel
theorem dX6_sign_23 : decode cX6_sign 23 = .ok (.getfield 18, 3) := by decide +kernel
theorem dX6_sign_26 : decode cX6_sign 26 = .ok (.arraylength, 1) := by decide +kernel
theorem dX6_sign_27 : decode cX6_sign 27 = .ok (.if_icmp .ge 15, 3) := by decide +kernel
theorem dX6_sign_30 : decode cX6_sign 30 = .ok (.aload_n 0, 1) := by decide +kernel
theorem dX6_sign_31 : decode cX6_sign 31 = .ok (.getfield 18, 3) := by decide +kernel
theorem dX6_sign_34 : decode cX6_sign 34 = .ok (.aload_n 0, 1) := by decide +kernel
theorem dX6_sign_35 : decode cX6_sign 35 = .ok (.getfield 26, 3) := by decide +kernel
theorem dX6_sign_38 : decode cX6_sign 38 = .ok (.iaload, 1) := by decide +kernel
theorem dX6_sign_39 : decode cX6_sign 39 = .ok (.goto 4, 3) := by decide +kernel
theorem dX6_sign_42 : decode cX6_sign 42 = .ok (.iconst (-1), 1) := by decide +kernel
theorem dX6_sign_43 : decode cX6_sign 43 = .ok (.ireturn, 1) := by decide +kernel
theorem dX6_placeIn_0 : decode cX6_placeIn 0 = .ok (.aload_n 0, 1) := by decide +kernel
theorem dX6_placeIn_1 : decode cX6_placeIn 1 = .ok (.invokevirtual 74, 3) := by decide +kernel
theorem dX6_placeIn_4 : decode cX6_placeIn 4 = .ok (.ifCond .ge 7, 3) := by decide +kernel
theorem dX6_placeIn_7 : decode cX6_placeIn 7 = .ok (.iconst (-1), 1) := by decide +kernel
theorem dX6_placeIn_8 : decode cX6_placeIn 8 = .ok (.goto 12, 3) := by decide +kernel
theorem dX6_placeIn_11 : decode cX6_placeIn 11 = .ok (.aload_n 1, 1) := by decide +kernel
theorem dX6_placeIn_12 : decode cX6_placeIn 12 = .ok (.aload_n 0, 1) := by decide +kernel
theorem dX6_placeIn_13 : decode cX6_placeIn 13 = .ok (.invokevirtual 74, 3) := by decide +kernel
theorem dX6_placeIn_16 : decode cX6_placeIn 16 = .ok (.i2c, 1) := by decide +kernel
theorem dX6_placeIn_17 : decode cX6_placeIn 17 = .ok (.invokevirtual 116, 3) := by decide +kernel
theorem dX6_placeIn_20 : decode cX6_placeIn 20 = .ok (.ireturn, 1) := by decide +kernel
theorem dX6_refuse_0 : decode cX6_refuse 0 = .ok (.aload_n 0, 1) := by decide +kernel
theorem dX6_refuse_1 : decode cX6_refuse 1 = .ok (.getfield 29, 3) := by decide +kernel
theorem dX6_refuse_4 : decode cX6_refuse 4 = .ok (.ifCond .ne 17, 3) := by decide +kernel
theorem dX6_refuse_7 : decode cX6_refuse 7 = .ok (.aload_n 0, 1) := by decide +kernel
theorem dX6_refuse_8 : decode cX6_refuse 8 = .ok (.sipush (-1000), 3) := by decide +kernel
theorem dX6_refuse_11 : decode cX6_refuse 11 = .ok (.iload_n 1, 1) := by decide +kernel
theorem dX6_refuse_12 : decode cX6_refuse 12 = .ok (.imul, 1) := by decide +kernel
theorem dX6_refuse_13 : decode cX6_refuse 13 = .ok (.aload_n 0, 1) := by decide +kernel
theorem dX6_refuse_14 : decode cX6_refuse 14 = .ok (.getfield 26, 3) := by decide +kernel
theorem dX6_refuse_17 : decode cX6_refuse 17 = .ok (.isub, 1) := by decide +kernel
theorem dX6_refuse_18 : decode cX6_refuse 18 = .ok (.putfield 29, 3) := by decide +kernel
theorem dX6_refuse_21 : decode cX6_refuse 21 = .ok (.return_, 1) := by decide +kernel
theorem dX7_init_0 : decode cX7_init 0 = .ok (.aload_n 0, 1) := by decide +kernel
theorem dX7_init_1 : decode cX7_init 1 = .ok (.invokespecial 3, 3) := by decide +kernel
theorem dX7_init_4 : decode cX7_init 4 = .ok (.aload_n 0, 1) := by decide +kernel
theorem dX7_init_5 : decode cX7_init 5 = .ok (.bipush 8, 2) := by decide +kernel
theorem dX7_init_7 : decode cX7_init 7 = .ok (.newarray .int, 2) := by decide +kernel
theorem dX7_init_9 : decode cX7_init 9 = .ok (.putfield 9, 3) := by decide +kernel
theorem dX7_init_12 : decode cX7_init 12 = .ok (.aload_n 0, 1) := by decide +kernel
theorem dX7_init_13 : decode cX7_init 13 = .ok (.bipush 8, 2) := by decide +kernel
theorem dX7_init_15 : decode cX7_init 15 = .ok (.newarray .int, 2) := by decide +kernel
theorem dX7_init_17 : decode cX7_init 17 = .ok (.putfield 15, 3) := by decide +kernel
theorem dX7_init_20 : decode cX7_init 20 = .ok (.aload_n 0, 1) := by decide +kernel
theorem dX7_init_21 : decode cX7_init 21 = .ok (.bipush 8, 2) := by decide +kernel
theorem dX7_init_23 : decode cX7_init 23 = .ok (.newarray .int, 2) := by decide +kernel
theorem dX7_init_25 : decode cX7_init 25 = .ok (.putfield 18, 3) := by decide +kernel
theorem dX7_init_28 : decode cX7_init 28 = .ok (.aload_n 0, 1) := by decide +kernel
theorem dX7_init_29 : decode cX7_init 29 = .ok (.bipush 100, 2) := by decide +kernel
theorem dX7_init_31 : decode cX7_init 31 = .ok (.newarray .int, 2) := by decide +kernel
theorem dX7_init_33 : decode cX7_init 33 = .ok (.putfield 21, 3) := by decide +kernel
theorem dX7_init_36 : decode cX7_init 36 = .ok (.aload_n 0, 1) := by decide +kernel
theorem dX7_init_37 : decode cX7_init 37 = .ok (.iconst 0, 1) := by decide +kernel
theorem dX7_init_38 : decode cX7_init 38 = .ok (.putfield 24, 3) := by decide +kernel
theorem dX7_init_41 : decode cX7_init 41 = .ok (.aload_n 0, 1) := by decide +kernel
theorem dX7_init_42 : decode cX7_init 42 = .ok (.iconst 0, 1) := by decide +kernel
theorem dX7_init_43 : decode cX7_init 43 = .ok (.putfield 28, 3) := by decide +kernel
theorem dX7_init_46 : decode cX7_init 46 = .ok (.return_, 1) := by decide +kernel
theorem dX7_take_0 : decode cX7_take 0 = .ok (.aload_n 0, 1) := by decide +kernel
theorem dX7_take_1 : decode cX7_take 1 = .ok (.iload_n 2, 1) := by decide +kernel
theorem dX7_take_2 : decode cX7_take 2 = .ok (.bipush 8, 2) := by decide +kernel
theorem dX7_take_4 : decode cX7_take 4 = .ok (.invokestatic 31, 3) := by decide +kernel
theorem dX7_take_7 : decode cX7_take 7 = .ok (.putfield 24, 3) := by decide +kernel
theorem dX7_take_10 : decode cX7_take 10 = .ok (.iconst 0, 1) := by decide +kernel
theorem dX7_take_11 : decode cX7_take 11 = .ok (.istore_n 3, 1) := by decide +kernel
theorem dX7_take_12 : decode cX7_take 12 = .ok (.iload_n 3, 1) := by decide +kernel
theorem dX7_take_13 : decode cX7_take 13 = .ok (.aload_n 0, 1) := by decide +kernel
theorem dX7_take_14 : decode cX7_take 14 = .ok (.getfield 24, 3) := by decide +kernel
theorem dX7_take_17 : decode cX7_take 17 = .ok (.if_icmp .ge 60, 3) := by decide +kernel
theorem dX7_take_20 : decode cX7_take 20 = .ok (.iconst 2, 1) := by decide +kernel
theorem dX7_take_21 : decode cX7_take 21 = .ok (.iload_n 3, 1) := by decide +kernel
theorem dX7_take_22 : decode cX7_take 22 = .ok (.imul, 1) := by decide +kernel
theorem dX7_take_23 : decode cX7_take 23 = .ok (.iconst 1, 1) := by decide +kernel
theorem dX7_take_24 : decode cX7_take 24 = .ok (.iadd, 1) := by decide +kernel
theorem dX7_take_25 : decode cX7_take 25 = .ok (.aload_n 1, 1) := by decide +kernel
theorem dX7_take_26 : decode cX7_take 26 = .ok (.arraylength, 1) := by decide +kernel
theorem dX7_take_27 : decode cX7_take 27 = .ok (.if_icmp .ge 50, 3) := by decide +kernel
theorem dX7_take_30 : decode cX7_take 30 = .ok (.aload_n 0, 1) := by decide +kernel
theorem dX7_take_31 : decode cX7_take 31 = .ok (.getfield 9, 3) := by decide +kernel
theorem dX7_take_34 : decode cX7_take 34 = .ok (.iload_n 3, 1) := by decide +kernel
theorem dX7_take_35 : decode cX7_take 35 = .ok (.aload_n 1, 1) := by decide +kernel
theorem dX7_take_36 : decode cX7_take 36 = .ok (.iconst 2, 1) := by decide +kernel
theorem dX7_take_37 : decode cX7_take 37 = .ok (.iload_n 3, 1) := by decide +kernel
theorem dX7_take_38 : decode cX7_take 38 = .ok (.imul, 1) := by decide +kernel
theorem dX7_take_39 : decode cX7_take 39 = .ok (.iaload, 1) := by decide +kernel
theorem dX7_take_40 : decode cX7_take 40 = .ok (.iastore, 1) := by decide +kernel
theorem dX7_take_41 : decode cX7_take 41 = .ok (.aload_n 0, 1) := by decide +kernel
theorem dX7_take_42 : decode cX7_take 42 = .ok (.getfield 15, 3) := by decide +kernel
theorem dX7_take_45 : decode cX7_take 45 = .ok (.iload_n 3, 1) := by decide +kernel
theorem dX7_take_46 : decode cX7_take 46 = .ok (.aload_n 1, 1) := by decide +kernel
theorem dX7_take_47 : decode cX7_take 47 = .ok (.iconst 2, 1) := by decide +kernel
theorem dX7_take_48 : decode cX7_take 48 = .ok (.iload_n 3, 1) := by decide +kernel
theorem dX7_take_49 : decode cX7_take 49 = .ok (.imul, 1) := by decide +kernel
theorem dX7_take_50 : decode cX7_take 50 = .ok (.iconst 1, 1) := by decide +kernel
theorem dX7_take_51 : decode cX7_take 51 = .ok (.iadd, 1) := by decide +kernel
theorem dX7_take_52 : decode cX7_take 52 = .ok (.iaload, 1) := by decide +kernel
theorem dX7_take_53 : decode cX7_take 53 = .ok (.iastore, 1) := by decide +kernel
theorem dX7_take_54 : decode cX7_take 54 = .ok (.aload_n 0, 1) := by decide +kernel
theorem dX7_take_55 : decode cX7_take 55 = .ok (.getfield 15, 3) := by decide +kernel
theorem dX7_take_58 : decode cX7_take 58 = .ok (.iload_n 3, 1) := by decide +kernel
theorem dX7_take_59 : decode cX7_take 59 = .ok (.iaload, 1) := by decide +kernel
theorem dX7_take_60 : decode cX7_take 60 = .ok (.aload_n 0, 1) := by decide +kernel
theorem dX7_take_61 : decode cX7_take 61 = .ok (.getfield 9, 3) := by decide +kernel
theorem dX7_take_64 : decode cX7_take 64 = .ok (.iload_n 3, 1) := by decide +kernel
theorem dX7_take_65 : decode cX7_take 65 = .ok (.iaload, 1) := by decide +kernel
theorem dX7_take_66 : decode cX7_take 66 = .ok (.if_icmp .ge 5, 3) := by decide +kernel
theorem dX7_take_69 : decode cX7_take 69 = .ok (.iconst 0, 1) := by decide +kernel
theorem dX7_take_70 : decode cX7_take 70 = .ok (.ireturn, 1) := by decide +kernel
theorem dX7_take_71 : decode cX7_take 71 = .ok (.iinc 3 1, 3) := by decide +kernel
theorem dX7_take_74 : decode cX7_take 74 = .ok (.goto (-62), 3) := by decide +kernel
theorem dX7_take_77 : decode cX7_take 77 = .ok (.iconst 1, 1) := by decide +kernel
theorem dX7_take_78 : decode cX7_take 78 = .ok (.ireturn, 1) := by decide +kernel
theorem dX7_solve_0 : decode cX7_solve 0 = .ok (.aload_n 0, 1) := by decide +kernel
theorem dX7_solve_1 : decode cX7_solve 1 = .ok (.getfield 21, 3) := by decide +kernel
theorem dX7_solve_4 : decode cX7_solve 4 = .ok (.iconst 0, 1) := by decide +kernel
theorem dX7_solve_5 : decode cX7_solve 5 = .ok (.invokestatic 37, 3) := by decide +kernel
theorem dX7_solve_8 : decode cX7_solve 8 = .ok (.aload_n 0, 1) := by decide +kernel
theorem dX7_solve_9 : decode cX7_solve 9 = .ok (.aload_n 0, 1) := by decide +kernel
theorem dX7_solve_10 : decode cX7_solve 10 = .ok (.iconst 0, 1) := by decide +kernel
theorem dX7_solve_11 : decode cX7_solve 11 = .ok (.invokevirtual 43, 3) := by decide +kernel
theorem dX7_solve_14 : decode cX7_solve 14 = .ok (.putfield 28, 3) := by decide +kernel
theorem dX7_solve_17 : decode cX7_solve 17 = .ok (.aload_n 0, 1) := by decide +kernel
theorem dX7_solve_18 : decode cX7_solve 18 = .ok (.getfield 28, 3) := by decide +kernel
theorem dX7_solve_21 : decode cX7_solve 21 = .ok (.istore_n 1, 1) := by decide +kernel
theorem dX7_solve_22 : decode cX7_solve 22 = .ok (.iconst 0, 1) := by decide +kernel
theorem dX7_solve_23 : decode cX7_solve 23 = .ok (.istore_n 2, 1) := by decide +kernel
theorem dX7_solve_24 : decode cX7_solve 24 = .ok (.iload_n 2, 1) := by decide +kernel
theorem dX7_solve_25 : decode cX7_solve 25 = .ok (.aload_n 0, 1) := by decide +kernel
theorem dX7_solve_26 : decode cX7_solve 26 = .ok (.getfield 24, 3) := by decide +kernel
theorem dX7_solve_29 : decode cX7_solve 29 = .ok (.if_icmp .ge 40, 3) := by decide +kernel
theorem dX7_solve_32 : decode cX7_solve 32 = .ok (.aload_n 0, 1) := by decide +kernel
theorem dX7_solve_33 : decode cX7_solve 33 = .ok (.getfield 18, 3) := by decide +kernel
theorem dX7_solve_36 : decode cX7_solve 36 = .ok (.iload_n 2, 1) := by decide +kernel
theorem dX7_solve_37 : decode cX7_solve 37 = .ok (.aload_n 0, 1) := by decide +kernel
theorem dX7_solve_38 : decode cX7_solve 38 = .ok (.iload_n 2, 1) := by decide +kernel
theorem dX7_solve_39 : decode cX7_solve 39 = .ok (.iload_n 1, 1) := by decide +kernel
theorem dX7_solve_40 : decode cX7_solve 40 = .ok (.invokevirtual 47, 3) := by decide +kernel
theorem dX7_solve_43 : decode cX7_solve 43 = .ok (.iastore, 1) := by decide +kernel
theorem dX7_solve_44 : decode cX7_solve 44 = .ok (.iload_n 1, 1) := by decide +kernel
theorem dX7_solve_45 : decode cX7_solve 45 = .ok (.aload_n 0, 1) := by decide +kernel
theorem dX7_solve_46 : decode cX7_solve 46 = .ok (.getfield 18, 3) := by decide +kernel
theorem dX7_solve_49 : decode cX7_solve 49 = .ok (.iload_n 2, 1) := by decide +kernel
theorem dX7_solve_50 : decode cX7_solve 50 = .ok (.iaload, 1) := by decide +kernel
theorem dX7_solve_51 : decode cX7_solve 51 = .ok (.bipush 100, 2) := by decide +kernel
theorem dX7_solve_53 : decode cX7_solve 53 = .ok (.if_icmp .ne 7, 3) := by decide +kernel
theorem dX7_solve_56 : decode cX7_solve 56 = .ok (.iconst 0, 1) := by decide +kernel
theorem dX7_solve_57 : decode cX7_solve 57 = .ok (.goto 4, 3) := by decide +kernel
theorem dX7_solve_60 : decode cX7_solve 60 = .ok (.iconst 1, 1) := by decide +kernel
theorem dX7_solve_61 : decode cX7_solve 61 = .ok (.isub, 1) := by decide +kernel
theorem dX7_solve_62 : decode cX7_solve 62 = .ok (.istore_n 1, 1) := by decide +kernel
theorem dX7_solve_63 : decode cX7_solve 63 = .ok (.iinc 2 1, 3) := by decide +kernel
theorem dX7_solve_66 : decode cX7_solve 66 = .ok (.goto (-42), 3) := by decide +kernel
theorem dX7_solve_69 : decode cX7_solve 69 = .ok (.return_, 1) := by decide +kernel
theorem dX7_earliestFor_0 : decode cX7_earliestFor 0 = .ok (.aload_n 0, 1) := by decide +kernel
theorem dX7_earliestFor_1 : decode cX7_earliestFor 1 = .ok (.getfield 9, 3) := by decide +kernel
theorem dX7_earliestFor_4 : decode cX7_earliestFor 4 = .ok (.iload_n 1, 1) := by decide +kernel
theorem dX7_earliestFor_5 : decode cX7_earliestFor 5 = .ok (.iaload, 1) := by decide +kernel
theorem dX7_earliestFor_6 : decode cX7_earliestFor 6 = .ok (.istore_n 3, 1) := by decide +kernel
theorem dX7_earliestFor_7 : decode cX7_earliestFor 7 = .ok (.iload_n 3, 1) := by decide +kernel
theorem dX7_earliestFor_8 : decode cX7_earliestFor 8 = .ok (.aload_n 0, 1) := by decide +kernel
theorem dX7_earliestFor_9 : decode cX7_earliestFor 9 = .ok (.getfield 15, 3) := by decide +kernel
theorem dX7_earliestFor_12 : decode cX7_earliestFor 12 = .ok (.iload_n 1, 1) := by decide +kernel
theorem dX7_earliestFor_13 : decode cX7_earliestFor 13 = .ok (.iaload, 1) := by decide +kernel
theorem dX7_earliestFor_14 : decode cX7_earliestFor 14 = .ok (.if_icmp .gt 53, 3) := by decide +kernel
theorem dX7_earliestFor_17 : decode cX7_earliestFor 17 = .ok (.iload_n 3, 1) := by decide +kernel
theorem dX7_earliestFor_18 : decode cX7_earliestFor 18 = .ok (.bipush 100, 2) := by decide +kernel
theorem dX7_earliestFor_20 : decode cX7_earliestFor 20 = .ok (.if_icmp .ge 47, 3) := by decide +kernel
theorem dX7_earliestFor_23 : decode cX7_earliestFor 23 = .ok (.aload_n 0, 1) := by decide +kernel
theorem dX7_earliestFor_24 : decode cX7_earliestFor 24 = .ok (.getfield 21, 3) := by decide +kernel
theorem dX7_earliestFor_27 : decode cX7_earliestFor 27 = .ok (.iload_n 3, 1) := by decide +kernel
theorem dX7_earliestFor_28 : decode cX7_earliestFor 28 = .ok (.iaload, 1) := by decide +kernel
theorem dX7_earliestFor_29 : decode cX7_earliestFor 29 = .ok (.ifCond .ne 32, 3) := by decide +kernel
theorem dX7_earliestFor_32 : decode cX7_earliestFor 32 = .ok (.aload_n 0, 1) := by decide +kernel
theorem dX7_earliestFor_33 : decode cX7_earliestFor 33 = .ok (.getfield 21, 3) := by decide +kernel
theorem dX7_earliestFor_36 : decode cX7_earliestFor 36 = .ok (.iload_n 3, 1) := by decide +kernel
theorem dX7_earliestFor_37 : decode cX7_earliestFor 37 = .ok (.iconst 1, 1) := by decide +kernel
theorem dX7_earliestFor_38 : decode cX7_earliestFor 38 = .ok (.iastore, 1) := by decide +kernel
theorem dX7_earliestFor_39 : decode cX7_earliestFor 39 = .ok (.iconst 1, 1) := by decide +kernel
theorem dX7_earliestFor_40 : decode cX7_earliestFor 40 = .ok (.aload_n 0, 1) := by decide +kernel
theorem dX7_earliestFor_41 : decode cX7_earliestFor 41 = .ok (.iload_n 1, 1) := by decide +kernel
theorem dX7_earliestFor_42 : decode cX7_earliestFor 42 = .ok (.iconst 1, 1) := by decide +kernel
theorem dX7_earliestFor_43 : decode cX7_earliestFor 43 = .ok (.iadd, 1) := by decide +kernel
theorem dX7_earliestFor_44 : decode cX7_earliestFor 44 = .ok (.invokevirtual 43, 3) := by decide +kernel
theorem dX7_earliestFor_47 : decode cX7_earliestFor 47 = .ok (.iadd, 1) := by decide +kernel
theorem dX7_earliestFor_48 : decode cX7_earliestFor 48 = .ok (.iload_n 2, 1) := by decide +kernel
theorem dX7_earliestFor_49 : decode cX7_earliestFor 49 = .ok (.if_icmp .lt 5, 3) := by decide +kernel
theorem dX7_earliestFor_52 : decode cX7_earliestFor 52 = .ok (.iload_n 3, 1) := by decide +kernel
theorem dX7_earliestFor_53 : decode cX7_earliestFor 53 = .ok (.ireturn, 1) := by decide +kernel
theorem dX7_earliestFor_54 : decode cX7_earliestFor 54 = .ok (.aload_n 0, 1) := by decide +kernel
theorem dX7_earliestFor_55 : decode cX7_earliestFor 55 = .ok (.getfield 21, 3) := by decide +kernel
theorem dX7_earliestFor_58 : decode cX7_earliestFor 58 = .ok (.iload_n 3, 1) := by decide +kernel
theorem dX7_earliestFor_59 : decode cX7_earliestFor 59 = .ok (.iconst 0, 1) := by decide +kernel
theorem dX7_earliestFor_60 : decode cX7_earliestFor 60 = .ok (.iastore, 1) := by decide +kernel
theorem dX7_earliestFor_61 : decode cX7_earliestFor 61 = .ok (.iinc 3 1, 3) := by decide +kernel
theorem dX7_earliestFor_64 : decode cX7_earliestFor 64 = .ok (.goto (-57), 3) := by decide +kernel
theorem dX7_earliestFor_67 : decode cX7_earliestFor 67 = .ok (.bipush 100, 2) := by decide +kernel
theorem dX7_earliestFor_69 : decode cX7_earliestFor 69 = .ok (.ireturn, 1) := by decide +kernel
theorem dX7_mostFrom_0 : decode cX7_mostFrom 0 = .ok (.iconst 1, 1) := by decide +kernel
theorem dX7_mostFrom_1 : decode cX7_mostFrom 1 = .ok (.aload_n 0, 1) := by decide +kernel
theorem dX7_mostFrom_2 : decode cX7_mostFrom 2 = .ok (.getfield 24, 3) := by decide +kernel
theorem dX7_mostFrom_5 : decode cX7_mostFrom 5 = .ok (.ishl, 1) := by decide +kernel
theorem dX7_mostFrom_6 : decode cX7_mostFrom 6 = .ok (.iconst 1, 1) := by decide +kernel
theorem dX7_mostFrom_7 : decode cX7_mostFrom 7 = .ok (.iload_n 1, 1) := by decide +kernel
theorem dX7_mostFrom_8 : decode cX7_mostFrom 8 = .ok (.aload_n 0, 1) := by decide +kernel
theorem dX7_mostFrom_9 : decode cX7_mostFrom 9 = .ok (.getfield 24, 3) := by decide +kernel
theorem dX7_mostFrom_12 : decode cX7_mostFrom 12 = .ok (.invokestatic 31, 3) := by decide +kernel
theorem dX7_mostFrom_15 : decode cX7_mostFrom 15 = .ok (.ishl, 1) := by decide +kernel
theorem dX7_mostFrom_16 : decode cX7_mostFrom 16 = .ok (.isub, 1) := by decide +kernel
theorem dX7_mostFrom_17 : decode cX7_mostFrom 17 = .ok (.istore_n 2, 1) := by decide +kernel
theorem dX7_mostFrom_18 : decode cX7_mostFrom 18 = .ok (.iconst 0, 1) := by decide +kernel
theorem dX7_mostFrom_19 : decode cX7_mostFrom 19 = .ok (.istore_n 3, 1) := by decide +kernel
theorem dX7_mostFrom_20 : decode cX7_mostFrom 20 = .ok (.iconst 0, 1) := by decide +kernel
theorem dX7_mostFrom_21 : decode cX7_mostFrom 21 = .ok (.istore 4, 2) := by decide +kernel
theorem dX7_mostFrom_23 : decode cX7_mostFrom 23 = .ok (.iload 4, 2) := by decide +kernel
theorem dX7_mostFrom_25 : decode cX7_mostFrom 25 = .ok (.bipush 100, 2) := by decide +kernel
theorem dX7_mostFrom_27 : decode cX7_mostFrom 27 = .ok (.if_icmp .ge 54, 3) := by decide +kernel
theorem dX7_mostFrom_30 : decode cX7_mostFrom 30 = .ok (.iload_n 2, 1) := by decide +kernel
theorem dX7_mostFrom_31 : decode cX7_mostFrom 31 = .ok (.ifCond .eq 50, 3) := by decide +kernel
theorem dX7_mostFrom_34 : decode cX7_mostFrom 34 = .ok (.aload_n 0, 1) := by decide +kernel
theorem dX7_mostFrom_35 : decode cX7_mostFrom 35 = .ok (.getfield 21, 3) := by decide +kernel
theorem dX7_mostFrom_38 : decode cX7_mostFrom 38 = .ok (.iload 4, 2) := by decide +kernel
theorem dX7_mostFrom_40 : decode cX7_mostFrom 40 = .ok (.iaload, 1) := by decide +kernel
theorem dX7_mostFrom_41 : decode cX7_mostFrom 41 = .ok (.ifCond .ne 13, 3) := by decide +kernel
theorem dX7_mostFrom_44 : decode cX7_mostFrom 44 = .ok (.aload_n 0, 1) := by decide +kernel
theorem dX7_mostFrom_45 : decode cX7_mostFrom 45 = .ok (.iload_n 2, 1) := by decide +kernel
theorem dX7_mostFrom_46 : decode cX7_mostFrom 46 = .ok (.iload 4, 2) := by decide +kernel
theorem dX7_mostFrom_48 : decode cX7_mostFrom 48 = .ok (.invokevirtual 50, 3) := by decide +kernel
theorem dX7_mostFrom_51 : decode cX7_mostFrom 51 = .ok (.goto 4, 3) := by decide +kernel
theorem dX7_mostFrom_54 : decode cX7_mostFrom 54 = .ok (.iconst (-1), 1) := by decide +kernel
theorem dX7_mostFrom_55 : decode cX7_mostFrom 55 = .ok (.istore 5, 2) := by decide +kernel
theorem dX7_mostFrom_57 : decode cX7_mostFrom 57 = .ok (.iload 5, 2) := by decide +kernel
theorem dX7_mostFrom_59 : decode cX7_mostFrom 59 = .ok (.iconst (-1), 1) := by decide +kernel
theorem dX7_mostFrom_60 : decode cX7_mostFrom 60 = .ok (.if_icmp .eq 15, 3) := by decide +kernel
theorem dX7_mostFrom_63 : decode cX7_mostFrom 63 = .ok (.iload_n 2, 1) := by decide +kernel
theorem dX7_mostFrom_64 : decode cX7_mostFrom 64 = .ok (.iconst 1, 1) := by decide +kernel
theorem dX7_mostFrom_65 : decode cX7_mostFrom 65 = .ok (.iload 5, 2) := by decide +kernel
theorem dX7_mostFrom_67 : decode cX7_mostFrom 67 = .ok (.ishl, 1) := by decide +kernel
theorem dX7_mostFrom_68 : decode cX7_mostFrom 68 = .ok (.iconst (-1), 1) := by decide +kernel
theorem dX7_mostFrom_69 : decode cX7_mostFrom 69 = .ok (.ixor, 1) := by decide +kernel
theorem dX7_mostFrom_70 : decode cX7_mostFrom 70 = .ok (.iand, 1) := by decide +kernel
theorem dX7_mostFrom_71 : decode cX7_mostFrom 71 = .ok (.istore_n 2, 1) := by decide +kernel
theorem dX7_mostFrom_72 : decode cX7_mostFrom 72 = .ok (.iinc 3 1, 3) := by decide +kernel
theorem dX7_mostFrom_75 : decode cX7_mostFrom 75 = .ok (.iinc 4 1, 3) := by decide +kernel
theorem dX7_mostFrom_78 : decode cX7_mostFrom 78 = .ok (.goto (-55), 3) := by decide +kernel
theorem dX7_mostFrom_81 : decode cX7_mostFrom 81 = .ok (.iload_n 3, 1) := by decide +kernel
theorem dX7_mostFrom_82 : decode cX7_mostFrom 82 = .ok (.ireturn, 1) := by decide +kernel
theorem dX7_mostPressed_0 : decode cX7_mostPressed 0 = .ok (.iconst (-1), 1) := by decide +kernel
theorem dX7_mostPressed_1 : decode cX7_mostPressed 1 = .ok (.istore_n 3, 1) := by decide +kernel
theorem dX7_mostPressed_2 : decode cX7_mostPressed 2 = .ok (.iconst 0, 1) := by decide +kernel
theorem dX7_mostPressed_3 : decode cX7_mostPressed 3 = .ok (.istore 4, 2) := by decide +kernel
theorem dX7_mostPressed_5 : decode cX7_mostPressed 5 = .ok (.iload 4, 2) := by decide +kernel
theorem dX7_mostPressed_7 : decode cX7_mostPressed 7 = .ok (.aload_n 0, 1) := by decide +kernel
theorem dX7_mostPressed_8 : decode cX7_mostPressed 8 = .ok (.getfield 24, 3) := by decide +kernel
theorem dX7_mostPressed_11 : decode cX7_mostPressed 11 = .ok (.if_icmp .ge 76, 3) := by decide +kernel
theorem dX7_mostPressed_14 : decode cX7_mostPressed 14 = .ok (.iload_n 1, 1) := by decide +kernel
theorem dX7_mostPressed_15 : decode cX7_mostPressed 15 = .ok (.iload 4, 2) := by decide +kernel
theorem dX7_mostPressed_17 : decode cX7_mostPressed 17 = .ok (.invokestatic 53, 3) := by decide +kernel
theorem dX7_mostPressed_20 : decode cX7_mostPressed 20 = .ok (.ifCond .eq 29, 3) := by decide +kernel
theorem dX7_mostPressed_23 : decode cX7_mostPressed 23 = .ok (.aload_n 0, 1) := by decide +kernel
theorem dX7_mostPressed_24 : decode cX7_mostPressed 24 = .ok (.getfield 9, 3) := by decide +kernel
theorem dX7_mostPressed_27 : decode cX7_mostPressed 27 = .ok (.iload 4, 2) := by decide +kernel
theorem dX7_mostPressed_29 : decode cX7_mostPressed 29 = .ok (.iaload, 1) := by decide +kernel
theorem dX7_mostPressed_30 : decode cX7_mostPressed 30 = .ok (.iload_n 2, 1) := by decide +kernel
theorem dX7_mostPressed_31 : decode cX7_mostPressed 31 = .ok (.if_icmp .gt 18, 3) := by decide +kernel
theorem dX7_mostPressed_34 : decode cX7_mostPressed 34 = .ok (.iload_n 2, 1) := by decide +kernel
theorem dX7_mostPressed_35 : decode cX7_mostPressed 35 = .ok (.aload_n 0, 1) := by decide +kernel
theorem dX7_mostPressed_36 : decode cX7_mostPressed 36 = .ok (.getfield 15, 3) := by decide +kernel
theorem dX7_mostPressed_39 : decode cX7_mostPressed 39 = .ok (.iload 4, 2) := by decide +kernel
theorem dX7_mostPressed_41 : decode cX7_mostPressed 41 = .ok (.iaload, 1) := by decide +kernel
theorem dX7_mostPressed_42 : decode cX7_mostPressed 42 = .ok (.if_icmp .gt 7, 3) := by decide +kernel
theorem dX7_mostPressed_45 : decode cX7_mostPressed 45 = .ok (.iconst 1, 1) := by decide +kernel
theorem dX7_mostPressed_46 : decode cX7_mostPressed 46 = .ok (.goto 4, 3) := by decide +kernel
theorem dX7_mostPressed_49 : decode cX7_mostPressed 49 = .ok (.iconst 0, 1) := by decide +kernel
theorem dX7_mostPressed_50 : decode cX7_mostPressed 50 = .ok (.istore 5, 2) := by decide +kernel
theorem dX7_mostPressed_52 : decode cX7_mostPressed 52 = .ok (.iload 5, 2) := by decide +kernel
theorem dX7_mostPressed_54 : decode cX7_mostPressed 54 = .ok (.ifCond .eq 27, 3) := by decide +kernel
theorem dX7_mostPressed_57 : decode cX7_mostPressed 57 = .ok (.iload_n 3, 1) := by decide +kernel
theorem dX7_mostPressed_58 : decode cX7_mostPressed 58 = .ok (.iconst (-1), 1) := by decide +kernel
theorem dX7_mostPressed_59 : decode cX7_mostPressed 59 = .ok (.if_icmp .eq 19, 3) := by decide +kernel
theorem dX7_mostPressed_62 : decode cX7_mostPressed 62 = .ok (.aload_n 0, 1) := by decide +kernel
theorem dX7_mostPressed_63 : decode cX7_mostPressed 63 = .ok (.getfield 15, 3) := by decide +kernel
theorem dX7_mostPressed_66 : decode cX7_mostPressed 66 = .ok (.iload 4, 2) := by decide +kernel
theorem dX7_mostPressed_68 : decode cX7_mostPressed 68 = .ok (.iaload, 1) := by decide +kernel
theorem dX7_mostPressed_69 : decode cX7_mostPressed 69 = .ok (.aload_n 0, 1) := by decide +kernel
theorem dX7_mostPressed_70 : decode cX7_mostPressed 70 = .ok (.getfield 15, 3) := by decide +kernel
theorem dX7_mostPressed_73 : decode cX7_mostPressed 73 = .ok (.iload_n 3, 1) := by decide +kernel
theorem dX7_mostPressed_74 : decode cX7_mostPressed 74 = .ok (.iaload, 1) := by decide +kernel
theorem dX7_mostPressed_75 : decode cX7_mostPressed 75 = .ok (.if_icmp .ge 6, 3) := by decide +kernel
theorem dX7_mostPressed_78 : decode cX7_mostPressed 78 = .ok (.iload 4, 2) := by decide +kernel
theorem dX7_mostPressed_80 : decode cX7_mostPressed 80 = .ok (.istore_n 3, 1) := by decide +kernel
theorem dX7_mostPressed_81 : decode cX7_mostPressed 81 = .ok (.iinc 4 1, 3) := by decide +kernel
theorem dX7_mostPressed_84 : decode cX7_mostPressed 84 = .ok (.goto (-79), 3) := by decide +kernel
theorem dX7_mostPressed_87 : decode cX7_mostPressed 87 = .ok (.iload_n 3, 1) := by decide +kernel
theorem dX7_mostPressed_88 : decode cX7_mostPressed 88 = .ok (.ireturn, 1) := by decide +kernel
theorem dX8_init_0 : decode cX8_init 0 = .ok (.aload_n 0, 1) := by decide +kernel
theorem dX8_init_1 : decode cX8_init 1 = .ok (.invokespecial 3, 3) := by decide +kernel
theorem dX8_init_4 : decode cX8_init 4 = .ok (.aload_n 0, 1) := by decide +kernel
theorem dX8_init_5 : decode cX8_init 5 = .ok (.iconst 5, 1) := by decide +kernel
theorem dX8_init_6 : decode cX8_init 6 = .ok (.newarray .int, 2) := by decide +kernel
theorem dX8_init_8 : decode cX8_init 8 = .ok (.putfield 9, 3) := by decide +kernel
theorem dX8_init_11 : decode cX8_init 11 = .ok (.aload_n 0, 1) := by decide +kernel
theorem dX8_init_12 : decode cX8_init 12 = .ok (.iconst 5, 1) := by decide +kernel
theorem dX8_init_13 : decode cX8_init 13 = .ok (.newarray .int, 2) := by decide +kernel
theorem dX8_init_15 : decode cX8_init 15 = .ok (.putfield 15, 3) := by decide +kernel
theorem dX8_init_18 : decode cX8_init 18 = .ok (.aload_n 0, 1) := by decide +kernel
theorem dX8_init_19 : decode cX8_init 19 = .ok (.iconst 0, 1) := by decide +kernel
theorem dX8_init_20 : decode cX8_init 20 = .ok (.putfield 18, 3) := by decide +kernel
theorem dX8_init_23 : decode cX8_init 23 = .ok (.aload_n 0, 1) := by decide +kernel
theorem dX8_init_24 : decode cX8_init 24 = .ok (.iconst 0, 1) := by decide +kernel
theorem dX8_init_25 : decode cX8_init 25 = .ok (.putfield 22, 3) := by decide +kernel
theorem dX8_init_28 : decode cX8_init 28 = .ok (.return_, 1) := by decide +kernel
theorem dX8_solve_0 : decode cX8_solve 0 = .ok (.aload_n 0, 1) := by decide +kernel
theorem dX8_solve_1 : decode cX8_solve 1 = .ok (.bipush 11, 2) := by decide +kernel
theorem dX8_solve_3 : decode cX8_solve 3 = .ok (.putfield 18, 3) := by decide +kernel
theorem dX8_solve_6 : decode cX8_solve 6 = .ok (.aload_n 0, 1) := by decide +kernel
theorem dX8_solve_7 : decode cX8_solve 7 = .ok (.bipush 11, 2) := by decide +kernel
theorem dX8_solve_9 : decode cX8_solve 9 = .ok (.putfield 22, 3) := by decide +kernel
theorem dX8_solve_12 : decode cX8_solve 12 = .ok (.aload_n 0, 1) := by decide +kernel
theorem dX8_solve_13 : decode cX8_solve 13 = .ok (.aload_n 1, 1) := by decide +kernel
theorem dX8_solve_14 : decode cX8_solve 14 = .ok (.iconst 0, 1) := by decide +kernel
theorem dX8_solve_15 : decode cX8_solve 15 = .ok (.iload_n 2, 1) := by decide +kernel
theorem dX8_solve_16 : decode cX8_solve 16 = .ok (.iconst 0, 1) := by decide +kernel
theorem dX8_solve_17 : decode cX8_solve 17 = .ok (.iconst 0, 1) := by decide +kernel
theorem dX8_solve_18 : decode cX8_solve 18 = .ok (.invokevirtual 25, 3) := by decide +kernel
theorem dX8_solve_21 : decode cX8_solve 21 = .ok (.return_, 1) := by decide +kernel
theorem dX8_place_0 : decode cX8_place 0 = .ok (.iload_n 3, 1) := by decide +kernel
theorem dX8_place_1 : decode cX8_place 1 = .ok (.ifCond .ne 11, 3) := by decide +kernel
theorem dX8_place_4 : decode cX8_place 4 = .ok (.aload_n 0, 1) := by decide +kernel
theorem dX8_place_5 : decode cX8_place 5 = .ok (.iload 4, 2) := by decide +kernel
theorem dX8_place_7 : decode cX8_place 7 = .ok (.iload 5, 2) := by decide +kernel
theorem dX8_place_9 : decode cX8_place 9 = .ok (.invokevirtual 29, 3) := by decide +kernel
theorem dX8_place_12 : decode cX8_place 12 = .ok (.iconst 0, 1) := by decide +kernel
theorem dX8_place_13 : decode cX8_place 13 = .ok (.istore 6, 2) := by decide +kernel
theorem dX8_place_15 : decode cX8_place 15 = .ok (.iload 6, 2) := by decide +kernel
theorem dX8_place_17 : decode cX8_place 17 = .ok (.aload_n 1, 1) := by decide +kernel
theorem dX8_place_18 : decode cX8_place 18 = .ok (.arraylength, 1) := by decide +kernel
theorem dX8_place_19 : decode cX8_place 19 = .ok (.if_icmp .ge 134, 3) := by decide +kernel
theorem dX8_place_22 : decode cX8_place 22 = .ok (.iload_n 2, 1) := by decide +kernel
theorem dX8_place_23 : decode cX8_place 23 = .ok (.iconst 5, 1) := by decide +kernel
theorem dX8_place_24 : decode cX8_place 24 = .ok (.if_icmp .ge 129, 3) := by decide +kernel
theorem dX8_place_27 : decode cX8_place 27 = .ok (.aload_n 1, 1) := by decide +kernel
theorem dX8_place_28 : decode cX8_place 28 = .ok (.iload 6, 2) := by decide +kernel
theorem dX8_place_30 : decode cX8_place 30 = .ok (.aaload, 1) := by decide +kernel
theorem dX8_place_31 : decode cX8_place 31 = .ok (.astore 7, 2) := by decide +kernel
theorem dX8_place_33 : decode cX8_place 33 = .ok (.iload_n 3, 1) := by decide +kernel
theorem dX8_place_34 : decode cX8_place 34 = .ok (.iload 6, 2) := by decide +kernel
theorem dX8_place_36 : decode cX8_place 36 = .ok (.invokestatic 33, 3) := by decide +kernel
theorem dX8_place_39 : decode cX8_place 39 = .ok (.ifCond .eq 108, 3) := by decide +kernel
theorem dX8_place_42 : decode cX8_place 42 = .ok (.aload 7, 2) := by decide +kernel
theorem dX8_place_44 : decode cX8_place 44 = .ok (.ifnull 103, 3) := by decide +kernel
theorem dX8_place_47 : decode cX8_place 47 = .ok (.iload 5, 2) := by decide +kernel
theorem dX8_place_49 : decode cX8_place 49 = .ok (.istore 8, 2) := by decide +kernel
theorem dX8_place_51 : decode cX8_place 51 = .ok (.iload 4, 2) := by decide +kernel
theorem dX8_place_53 : decode cX8_place 53 = .ok (.istore 9, 2) := by decide +kernel
theorem dX8_place_55 : decode cX8_place 55 = .ok (.iconst 0, 1) := by decide +kernel
theorem dX8_place_56 : decode cX8_place 56 = .ok (.istore 10, 2) := by decide +kernel
theorem dX8_place_58 : decode cX8_place 58 = .ok (.iload 10, 2) := by decide +kernel
theorem dX8_place_60 : decode cX8_place 60 = .ok (.aload 7, 2) := by decide +kernel
theorem dX8_place_62 : decode cX8_place 62 = .ok (.getfield 37, 3) := by decide +kernel
theorem dX8_place_65 : decode cX8_place 65 = .ok (.if_icmp .ge 45, 3) := by decide +kernel
theorem dX8_place_68 : decode cX8_place 68 = .ok (.iload 8, 2) := by decide +kernel
theorem dX8_place_70 : decode cX8_place 70 = .ok (.aload_n 0, 1) := by decide +kernel
theorem dX8_place_71 : decode cX8_place 71 = .ok (.getfield 18, 3) := by decide +kernel
theorem dX8_place_74 : decode cX8_place 74 = .ok (.if_icmp .gt 36, 3) := by decide +kernel
theorem dX8_place_77 : decode cX8_place 77 = .ok (.aload 7, 2) := by decide +kernel
theorem dX8_place_79 : decode cX8_place 79 = .ok (.getfield 42, 3) := by decide +kernel
theorem dX8_place_82 : decode cX8_place 82 = .ok (.iload 10, 2) := by decide +kernel
theorem dX8_place_84 : decode cX8_place 84 = .ok (.iaload, 1) := by decide +kernel
theorem dX8_place_85 : decode cX8_place 85 = .ok (.iload 9, 2) := by decide +kernel
theorem dX8_place_87 : decode cX8_place 87 = .ok (.invokestatic 45, 3) := by decide +kernel
theorem dX8_place_90 : decode cX8_place 90 = .ok (.istore 9, 2) := by decide +kernel
theorem dX8_place_92 : decode cX8_place 92 = .ok (.iload 8, 2) := by decide +kernel
theorem dX8_place_94 : decode cX8_place 94 = .ok (.iload 9, 2) := by decide +kernel
theorem dX8_place_96 : decode cX8_place 96 = .ok (.invokestatic 49, 3) := by decide +kernel
theorem dX8_place_99 : decode cX8_place 99 = .ok (.invokestatic 55, 3) := by decide +kernel
theorem dX8_place_102 : decode cX8_place 102 = .ok (.istore 8, 2) := by decide +kernel
theorem dX8_place_104 : decode cX8_place 104 = .ok (.iinc 10 1, 3) := by decide +kernel
theorem dX8_place_107 : decode cX8_place 107 = .ok (.goto (-49), 3) := by decide +kernel
theorem dX8_place_110 : decode cX8_place 110 = .ok (.aload_n 0, 1) := by decide +kernel
theorem dX8_place_111 : decode cX8_place 111 = .ok (.getfield 9, 3) := by decide +kernel
theorem dX8_place_114 : decode cX8_place 114 = .ok (.iload_n 2, 1) := by decide +kernel
theorem dX8_place_115 : decode cX8_place 115 = .ok (.iload 6, 2) := by decide +kernel
theorem dX8_place_117 : decode cX8_place 117 = .ok (.iastore, 1) := by decide +kernel
theorem dX8_place_118 : decode cX8_place 118 = .ok (.iload 8, 2) := by decide +kernel
theorem dX8_place_120 : decode cX8_place 120 = .ok (.aload_n 0, 1) := by decide +kernel
theorem dX8_place_121 : decode cX8_place 121 = .ok (.getfield 18, 3) := by decide +kernel
theorem dX8_place_124 : decode cX8_place 124 = .ok (.if_icmp .gt 23, 3) := by decide +kernel
theorem dX8_place_127 : decode cX8_place 127 = .ok (.aload_n 0, 1) := by decide +kernel
theorem dX8_place_128 : decode cX8_place 128 = .ok (.aload_n 1, 1) := by decide +kernel
theorem dX8_place_129 : decode cX8_place 129 = .ok (.iload_n 2, 1) := by decide +kernel
theorem dX8_place_130 : decode cX8_place 130 = .ok (.iconst 1, 1) := by decide +kernel
theorem dX8_place_131 : decode cX8_place 131 = .ok (.iadd, 1) := by decide +kernel
theorem dX8_place_132 : decode cX8_place 132 = .ok (.iload_n 3, 1) := by decide +kernel
theorem dX8_place_133 : decode cX8_place 133 = .ok (.iconst 1, 1) := by decide +kernel
theorem dX8_place_134 : decode cX8_place 134 = .ok (.iload 6, 2) := by decide +kernel
theorem dX8_place_136 : decode cX8_place 136 = .ok (.ishl, 1) := by decide +kernel
theorem dX8_place_137 : decode cX8_place 137 = .ok (.iconst (-1), 1) := by decide +kernel
theorem dX8_place_138 : decode cX8_place 138 = .ok (.ixor, 1) := by decide +kernel
theorem dX8_place_139 : decode cX8_place 139 = .ok (.iand, 1) := by decide +kernel
theorem dX8_place_140 : decode cX8_place 140 = .ok (.iload 9, 2) := by decide +kernel
theorem dX8_place_142 : decode cX8_place 142 = .ok (.iload 8, 2) := by decide +kernel
theorem dX8_place_144 : decode cX8_place 144 = .ok (.invokevirtual 25, 3) := by decide +kernel
theorem dX8_place_147 : decode cX8_place 147 = .ok (.iinc 6 1, 3) := by decide +kernel
theorem dX8_place_150 : decode cX8_place 150 = .ok (.goto (-135), 3) := by decide +kernel
theorem dX8_place_153 : decode cX8_place 153 = .ok (.return_, 1) := by decide +kernel
theorem dX8_rate_0 : decode cX8_rate 0 = .ok (.iload_n 1, 1) := by decide +kernel
theorem dX8_rate_1 : decode cX8_rate 1 = .ok (.invokestatic 49, 3) := by decide +kernel
theorem dX8_rate_4 : decode cX8_rate 4 = .ok (.istore_n 3, 1) := by decide +kernel
theorem dX8_rate_5 : decode cX8_rate 5 = .ok (.iload_n 2, 1) := by decide +kernel
theorem dX8_rate_6 : decode cX8_rate 6 = .ok (.aload_n 0, 1) := by decide +kernel
theorem dX8_rate_7 : decode cX8_rate 7 = .ok (.getfield 18, 3) := by decide +kernel
theorem dX8_rate_10 : decode cX8_rate 10 = .ok (.if_icmp .lt 19, 3) := by decide +kernel
theorem dX8_rate_13 : decode cX8_rate 13 = .ok (.iload_n 2, 1) := by decide +kernel
theorem dX8_rate_14 : decode cX8_rate 14 = .ok (.aload_n 0, 1) := by decide +kernel
theorem dX8_rate_15 : decode cX8_rate 15 = .ok (.getfield 18, 3) := by decide +kernel
theorem dX8_rate_18 : decode cX8_rate 18 = .ok (.if_icmp .ne 35, 3) := by decide +kernel
theorem dX8_rate_21 : decode cX8_rate 21 = .ok (.iload_n 3, 1) := by decide +kernel
theorem dX8_rate_22 : decode cX8_rate 22 = .ok (.aload_n 0, 1) := by decide +kernel
theorem dX8_rate_23 : decode cX8_rate 23 = .ok (.getfield 22, 3) := by decide +kernel
theorem dX8_rate_26 : decode cX8_rate 26 = .ok (.if_icmp .ge 27, 3) := by decide +kernel
theorem dX8_rate_29 : decode cX8_rate 29 = .ok (.aload_n 0, 1) := by decide +kernel
theorem dX8_rate_30 : decode cX8_rate 30 = .ok (.iload_n 2, 1) := by decide +kernel
theorem dX8_rate_31 : decode cX8_rate 31 = .ok (.putfield 18, 3) := by decide +kernel
theorem dX8_rate_34 : decode cX8_rate 34 = .ok (.aload_n 0, 1) := by decide +kernel
theorem dX8_rate_35 : decode cX8_rate 35 = .ok (.iload_n 3, 1) := by decide +kernel
theorem dX8_rate_36 : decode cX8_rate 36 = .ok (.putfield 22, 3) := by decide +kernel
theorem dX8_rate_39 : decode cX8_rate 39 = .ok (.aload_n 0, 1) := by decide +kernel
theorem dX8_rate_40 : decode cX8_rate 40 = .ok (.getfield 9, 3) := by decide +kernel
theorem dX8_rate_43 : decode cX8_rate 43 = .ok (.iconst 0, 1) := by decide +kernel
theorem dX8_rate_44 : decode cX8_rate 44 = .ok (.aload_n 0, 1) := by decide +kernel
theorem dX8_rate_45 : decode cX8_rate 45 = .ok (.getfield 15, 3) := by decide +kernel
theorem dX8_rate_48 : decode cX8_rate 48 = .ok (.iconst 0, 1) := by decide +kernel
theorem dX8_rate_49 : decode cX8_rate 49 = .ok (.iconst 5, 1) := by decide +kernel
theorem dX8_rate_50 : decode cX8_rate 50 = .ok (.invokestatic 60, 3) := by decide +kernel
theorem dX8_rate_53 : decode cX8_rate 53 = .ok (.return_, 1) := by decide +kernel
theorem dX9_init_0 : decode cX9_init 0 = .ok (.aload_n 0, 1) := by decide +kernel
theorem dX9_init_1 : decode cX9_init 1 = .ok (.invokespecial 3, 3) := by decide +kernel
theorem dX9_init_4 : decode cX9_init 4 = .ok (.aload_n 0, 1) := by decide +kernel
theorem dX9_init_5 : decode cX9_init 5 = .ok (.bipush 72, 2) := by decide +kernel
theorem dX9_init_7 : decode cX9_init 7 = .ok (.newarray .int, 2) := by decide +kernel
theorem dX9_init_9 : decode cX9_init 9 = .ok (.putfield 9, 3) := by decide +kernel
theorem dX9_init_12 : decode cX9_init 12 = .ok (.aload_n 0, 1) := by decide +kernel
theorem dX9_init_13 : decode cX9_init 13 = .ok (.iconst 0, 1) := by decide +kernel
theorem dX9_init_14 : decode cX9_init 14 = .ok (.putfield 15, 3) := by decide +kernel
theorem dX9_init_17 : decode cX9_init 17 = .ok (.aload_n 0, 1) := by decide +kernel
theorem dX9_init_18 : decode cX9_init 18 = .ok (.iconst 0, 1) := by decide +kernel
theorem dX9_init_19 : decode cX9_init 19 = .ok (.putfield 19, 3) := by decide +kernel
theorem dX9_init_22 : decode cX9_init 22 = .ok (.aload_n 0, 1) := by decide +kernel
theorem dX9_init_23 : decode cX9_init 23 = .ok (.iconst 0, 1) := by decide +kernel
theorem dX9_init_24 : decode cX9_init 24 = .ok (.putfield 22, 3) := by decide +kernel
theorem dX9_init_27 : decode cX9_init 27 = .ok (.aload_n 0, 1) := by decide +kernel
theorem dX9_init_28 : decode cX9_init 28 = .ok (.iconst 0, 1) := by decide +kernel
theorem dX9_init_29 : decode cX9_init 29 = .ok (.putfield 25, 3) := by decide +kernel
theorem dX9_init_32 : decode cX9_init 32 = .ok (.return_, 1) := by decide +kernel
theorem dX9_take_0 : decode cX9_take 0 = .ok (.aload_n 0, 1) := by decide +kernel
theorem dX9_take_1 : decode cX9_take 1 = .ok (.iconst 0, 1) := by decide +kernel
theorem dX9_take_2 : decode cX9_take 2 = .ok (.iload_n 2, 1) := by decide +kernel
theorem dX9_take_3 : decode cX9_take 3 = .ok (.aload_n 1, 1) := by decide +kernel
theorem dX9_take_4 : decode cX9_take 4 = .ok (.arraylength, 1) := by decide +kernel
theorem dX9_take_5 : decode cX9_take 5 = .ok (.bipush 72, 2) := by decide +kernel
theorem dX9_take_7 : decode cX9_take 7 = .ok (.invokestatic 28, 3) := by decide +kernel
theorem dX9_take_10 : decode cX9_take 10 = .ok (.invokestatic 28, 3) := by decide +kernel
theorem dX9_take_13 : decode cX9_take 13 = .ok (.invokestatic 34, 3) := by decide +kernel
theorem dX9_take_16 : decode cX9_take 16 = .ok (.putfield 15, 3) := by decide +kernel
theorem dX9_take_19 : decode cX9_take 19 = .ok (.aload_n 1, 1) := by decide +kernel
theorem dX9_take_20 : decode cX9_take 20 = .ok (.iconst 0, 1) := by decide +kernel
theorem dX9_take_21 : decode cX9_take 21 = .ok (.aload_n 0, 1) := by decide +kernel
theorem dX9_take_22 : decode cX9_take 22 = .ok (.getfield 9, 3) := by decide +kernel
theorem dX9_take_25 : decode cX9_take 25 = .ok (.iconst 0, 1) := by decide +kernel
theorem dX9_take_26 : decode cX9_take 26 = .ok (.aload_n 0, 1) := by decide +kernel
theorem dX9_take_27 : decode cX9_take 27 = .ok (.getfield 15, 3) := by decide +kernel
theorem dX9_take_30 : decode cX9_take 30 = .ok (.invokestatic 37, 3) := by decide +kernel
theorem dX9_take_33 : decode cX9_take 33 = .ok (.aload_n 0, 1) := by decide +kernel
theorem dX9_take_34 : decode cX9_take 34 = .ok (.iconst 0, 1) := by decide +kernel
theorem dX9_take_35 : decode cX9_take 35 = .ok (.putfield 19, 3) := by decide +kernel
theorem dX9_take_38 : decode cX9_take 38 = .ok (.aload_n 0, 1) := by decide +kernel
theorem dX9_take_39 : decode cX9_take 39 = .ok (.iconst 0, 1) := by decide +kernel
theorem dX9_take_40 : decode cX9_take 40 = .ok (.putfield 22, 3) := by decide +kernel
theorem dX9_take_43 : decode cX9_take 43 = .ok (.aload_n 0, 1) := by decide +kernel
theorem dX9_take_44 : decode cX9_take 44 = .ok (.iconst 0, 1) := by decide +kernel
theorem dX9_take_45 : decode cX9_take 45 = .ok (.putfield 25, 3) := by decide +kernel
theorem dX9_take_48 : decode cX9_take 48 = .ok (.iconst 0, 1) := by decide +kernel
theorem dX9_take_49 : decode cX9_take 49 = .ok (.istore_n 3, 1) := by decide +kernel
theorem dX9_take_50 : decode cX9_take 50 = .ok (.iload_n 3, 1) := by decide +kernel
theorem dX9_take_51 : decode cX9_take 51 = .ok (.aload_n 0, 1) := by decide +kernel
theorem dX9_take_52 : decode cX9_take 52 = .ok (.getfield 15, 3) := by decide +kernel
theorem dX9_take_55 : decode cX9_take 55 = .ok (.if_icmp .ge 76, 3) := by decide +kernel
theorem dX9_take_58 : decode cX9_take 58 = .ok (.aload_n 0, 1) := by decide +kernel
theorem dX9_take_59 : decode cX9_take 59 = .ok (.getfield 9, 3) := by decide +kernel
theorem dX9_take_62 : decode cX9_take 62 = .ok (.iload_n 3, 1) := by decide +kernel
theorem dX9_take_63 : decode cX9_take 63 = .ok (.iaload, 1) := by decide +kernel
theorem dX9_take_64 : decode cX9_take 64 = .ok (.aload_n 0, 1) := by decide +kernel
theorem dX9_take_65 : decode cX9_take 65 = .ok (.getfield 19, 3) := by decide +kernel
theorem dX9_take_68 : decode cX9_take 68 = .ok (.invokestatic 43, 3) := by decide +kernel
theorem dX9_take_71 : decode cX9_take 71 = .ok (.istore 4, 2) := by decide +kernel
theorem dX9_take_73 : decode cX9_take 73 = .ok (.aload_n 0, 1) := by decide +kernel
theorem dX9_take_74 : decode cX9_take 74 = .ok (.dup, 1) := by decide +kernel
theorem dX9_take_75 : decode cX9_take 75 = .ok (.getfield 25, 3) := by decide +kernel
theorem dX9_take_78 : decode cX9_take 78 = .ok (.aload_n 0, 1) := by decide +kernel
theorem dX9_take_79 : decode cX9_take 79 = .ok (.getfield 9, 3) := by decide +kernel
theorem dX9_take_82 : decode cX9_take 82 = .ok (.iload_n 3, 1) := by decide +kernel
theorem dX9_take_83 : decode cX9_take 83 = .ok (.iaload, 1) := by decide +kernel
theorem dX9_take_84 : decode cX9_take 84 = .ok (.invokestatic 46, 3) := by decide +kernel
theorem dX9_take_87 : decode cX9_take 87 = .ok (.iload 4, 2) := by decide +kernel
theorem dX9_take_89 : decode cX9_take 89 = .ok (.aload_n 0, 1) := by decide +kernel
theorem dX9_take_90 : decode cX9_take 90 = .ok (.getfield 19, 3) := by decide +kernel
theorem dX9_take_93 : decode cX9_take 93 = .ok (.iconst (-1), 1) := by decide +kernel
theorem dX9_take_94 : decode cX9_take 94 = .ok (.ixor, 1) := by decide +kernel
theorem dX9_take_95 : decode cX9_take 95 = .ok (.iand, 1) := by decide +kernel
theorem dX9_take_96 : decode cX9_take 96 = .ok (.ior, 1) := by decide +kernel
theorem dX9_take_97 : decode cX9_take 97 = .ok (.ior, 1) := by decide +kernel
theorem dX9_take_98 : decode cX9_take 98 = .ok (.putfield 25, 3) := by decide +kernel
theorem dX9_take_101 : decode cX9_take 101 = .ok (.aload_n 0, 1) := by decide +kernel
theorem dX9_take_102 : decode cX9_take 102 = .ok (.iload 4, 2) := by decide +kernel
theorem dX9_take_104 : decode cX9_take 104 = .ok (.putfield 19, 3) := by decide +kernel
theorem dX9_take_107 : decode cX9_take 107 = .ok (.aload_n 0, 1) := by decide +kernel
theorem dX9_take_108 : decode cX9_take 108 = .ok (.aload_n 0, 1) := by decide +kernel
theorem dX9_take_109 : decode cX9_take 109 = .ok (.getfield 22, 3) := by decide +kernel
theorem dX9_take_112 : decode cX9_take 112 = .ok (.aload_n 0, 1) := by decide +kernel
theorem dX9_take_113 : decode cX9_take 113 = .ok (.getfield 19, 3) := by decide +kernel
theorem dX9_take_116 : decode cX9_take 116 = .ok (.invokestatic 50, 3) := by decide +kernel
theorem dX9_take_119 : decode cX9_take 119 = .ok (.invokestatic 34, 3) := by decide +kernel
theorem dX9_take_122 : decode cX9_take 122 = .ok (.putfield 22, 3) := by decide +kernel
theorem dX9_take_125 : decode cX9_take 125 = .ok (.iinc 3 1, 3) := by decide +kernel
theorem dX9_take_128 : decode cX9_take 128 = .ok (.goto (-78), 3) := by decide +kernel
theorem dX9_take_131 : decode cX9_take 131 = .ok (.return_, 1) := by decide +kernel
theorem dX9_openBehind_0 : decode cX9_openBehind 0 = .ok (.iload_n 3, 1) := by decide +kernel
theorem dX9_openBehind_1 : decode cX9_openBehind 1 = .ok (.istore 4, 2) := by decide +kernel
theorem dX9_openBehind_3 : decode cX9_openBehind 3 = .ok (.iconst 0, 1) := by decide +kernel
theorem dX9_openBehind_4 : decode cX9_openBehind 4 = .ok (.iload_n 1, 1) := by decide +kernel
theorem dX9_openBehind_5 : decode cX9_openBehind 5 = .ok (.invokestatic 34, 3) := by decide +kernel
theorem dX9_openBehind_8 : decode cX9_openBehind 8 = .ok (.istore 5, 2) := by decide +kernel
theorem dX9_openBehind_10 : decode cX9_openBehind 10 = .ok (.iload 5, 2) := by decide +kernel
theorem dX9_openBehind_12 : decode cX9_openBehind 12 = .ok (.iload_n 2, 1) := by decide +kernel
theorem dX9_openBehind_13 : decode cX9_openBehind 13 = .ok (.if_icmp .ge 32, 3) := by decide +kernel
theorem dX9_openBehind_16 : decode cX9_openBehind 16 = .ok (.iload 5, 2) := by decide +kernel
theorem dX9_openBehind_18 : decode cX9_openBehind 18 = .ok (.aload_n 0, 1) := by decide +kernel
theorem dX9_openBehind_19 : decode cX9_openBehind 19 = .ok (.getfield 15, 3) := by decide +kernel
theorem dX9_openBehind_22 : decode cX9_openBehind 22 = .ok (.if_icmp .ge 23, 3) := by decide +kernel
theorem dX9_openBehind_25 : decode cX9_openBehind 25 = .ok (.aload_n 0, 1) := by decide +kernel
theorem dX9_openBehind_26 : decode cX9_openBehind 26 = .ok (.getfield 9, 3) := by decide +kernel
theorem dX9_openBehind_29 : decode cX9_openBehind 29 = .ok (.iload 5, 2) := by decide +kernel
theorem dX9_openBehind_31 : decode cX9_openBehind 31 = .ok (.iaload, 1) := by decide +kernel
theorem dX9_openBehind_32 : decode cX9_openBehind 32 = .ok (.iload 4, 2) := by decide +kernel
theorem dX9_openBehind_34 : decode cX9_openBehind 34 = .ok (.invokestatic 43, 3) := by decide +kernel
theorem dX9_openBehind_37 : decode cX9_openBehind 37 = .ok (.istore 4, 2) := by decide +kernel
theorem dX9_openBehind_39 : decode cX9_openBehind 39 = .ok (.iinc 5 1, 3) := by decide +kernel
theorem dX9_openBehind_42 : decode cX9_openBehind 42 = .ok (.goto (-32), 3) := by decide +kernel
theorem dX9_openBehind_45 : decode cX9_openBehind 45 = .ok (.iload 4, 2) := by decide +kernel
theorem dX9_openBehind_47 : decode cX9_openBehind 47 = .ok (.ireturn, 1) := by decide +kernel
theorem dX9_yawnsLike_0 : decode cX9_yawnsLike 0 = .ok (.iconst 0, 1) := by decide +kernel
theorem dX9_yawnsLike_1 : decode cX9_yawnsLike 1 = .ok (.istore 5, 2) := by decide +kernel
theorem dX9_yawnsLike_3 : decode cX9_yawnsLike 3 = .ok (.iconst 0, 1) := by decide +kernel
theorem dX9_yawnsLike_4 : decode cX9_yawnsLike 4 = .ok (.istore 6, 2) := by decide +kernel
theorem dX9_yawnsLike_6 : decode cX9_yawnsLike 6 = .ok (.iload 6, 2) := by decide +kernel
theorem dX9_yawnsLike_8 : decode cX9_yawnsLike 8 = .ok (.aload_n 0, 1) := by decide +kernel
theorem dX9_yawnsLike_9 : decode cX9_yawnsLike 9 = .ok (.getfield 15, 3) := by decide +kernel
theorem dX9_yawnsLike_12 : decode cX9_yawnsLike 12 = .ok (.if_icmp .ge 77, 3) := by decide +kernel
theorem dX9_yawnsLike_15 : decode cX9_yawnsLike 15 = .ok (.aload_n 0, 1) := by decide +kernel
theorem dX9_yawnsLike_16 : decode cX9_yawnsLike 16 = .ok (.getfield 9, 3) := by decide +kernel
theorem dX9_yawnsLike_19 : decode cX9_yawnsLike 19 = .ok (.iload 6, 2) := by decide +kernel
theorem dX9_yawnsLike_21 : decode cX9_yawnsLike 21 = .ok (.iaload, 1) := by decide +kernel
theorem dX9_yawnsLike_22 : decode cX9_yawnsLike 22 = .ok (.iload 5, 2) := by decide +kernel
theorem dX9_yawnsLike_24 : decode cX9_yawnsLike 24 = .ok (.invokestatic 43, 3) := by decide +kernel
theorem dX9_yawnsLike_27 : decode cX9_yawnsLike 27 = .ok (.istore 5, 2) := by decide +kernel
theorem dX9_yawnsLike_29 : decode cX9_yawnsLike 29 = .ok (.iload 6, 2) := by decide +kernel
theorem dX9_yawnsLike_31 : decode cX9_yawnsLike 31 = .ok (.iconst 1, 1) := by decide +kernel
theorem dX9_yawnsLike_32 : decode cX9_yawnsLike 32 = .ok (.iadd, 1) := by decide +kernel
theorem dX9_yawnsLike_33 : decode cX9_yawnsLike 33 = .ok (.iload_n 3, 1) := by decide +kernel
theorem dX9_yawnsLike_34 : decode cX9_yawnsLike 34 = .ok (.if_icmp .ne 12, 3) := by decide +kernel
theorem dX9_yawnsLike_37 : decode cX9_yawnsLike 37 = .ok (.iload 5, 2) := by decide +kernel
theorem dX9_yawnsLike_39 : decode cX9_yawnsLike 39 = .ok (.iload 4, 2) := by decide +kernel
theorem dX9_yawnsLike_41 : decode cX9_yawnsLike 41 = .ok (.iconst (-1), 1) := by decide +kernel
theorem dX9_yawnsLike_42 : decode cX9_yawnsLike 42 = .ok (.ixor, 1) := by decide +kernel
theorem dX9_yawnsLike_43 : decode cX9_yawnsLike 43 = .ok (.iand, 1) := by decide +kernel
theorem dX9_yawnsLike_44 : decode cX9_yawnsLike 44 = .ok (.istore 5, 2) := by decide +kernel
theorem dX9_yawnsLike_46 : decode cX9_yawnsLike 46 = .ok (.iload 6, 2) := by decide +kernel
theorem dX9_yawnsLike_48 : decode cX9_yawnsLike 48 = .ok (.aload_n 0, 1) := by decide +kernel
theorem dX9_yawnsLike_49 : decode cX9_yawnsLike 49 = .ok (.getfield 15, 3) := by decide +kernel
theorem dX9_yawnsLike_52 : decode cX9_yawnsLike 52 = .ok (.iload_n 2, 1) := by decide +kernel
theorem dX9_yawnsLike_53 : decode cX9_yawnsLike 53 = .ok (.isub, 1) := by decide +kernel
theorem dX9_yawnsLike_54 : decode cX9_yawnsLike 54 = .ok (.isub, 1) := by decide +kernel
theorem dX9_yawnsLike_55 : decode cX9_yawnsLike 55 = .ok (.istore 7, 2) := by decide +kernel
theorem dX9_yawnsLike_57 : decode cX9_yawnsLike 57 = .ok (.iload 7, 2) := by decide +kernel
theorem dX9_yawnsLike_59 : decode cX9_yawnsLike 59 = .ok (.ifCond .lt 24, 3) := by decide +kernel
theorem dX9_yawnsLike_62 : decode cX9_yawnsLike 62 = .ok (.iload 7, 2) := by decide +kernel
theorem dX9_yawnsLike_64 : decode cX9_yawnsLike 64 = .ok (.aload_n 1, 1) := by decide +kernel
theorem dX9_yawnsLike_65 : decode cX9_yawnsLike 65 = .ok (.arraylength, 1) := by decide +kernel
theorem dX9_yawnsLike_66 : decode cX9_yawnsLike 66 = .ok (.if_icmp .ge 17, 3) := by decide +kernel
theorem dX9_yawnsLike_69 : decode cX9_yawnsLike 69 = .ok (.aload_n 1, 1) := by decide +kernel
theorem dX9_yawnsLike_70 : decode cX9_yawnsLike 70 = .ok (.iload 7, 2) := by decide +kernel
theorem dX9_yawnsLike_72 : decode cX9_yawnsLike 72 = .ok (.iaload, 1) := by decide +kernel
theorem dX9_yawnsLike_73 : decode cX9_yawnsLike 73 = .ok (.iload 5, 2) := by decide +kernel
theorem dX9_yawnsLike_75 : decode cX9_yawnsLike 75 = .ok (.invokestatic 50, 3) := by decide +kernel
theorem dX9_yawnsLike_78 : decode cX9_yawnsLike 78 = .ok (.if_icmp .eq 5, 3) := by decide +kernel
theorem dX9_yawnsLike_81 : decode cX9_yawnsLike 81 = .ok (.iconst 0, 1) := by decide +kernel
theorem dX9_yawnsLike_82 : decode cX9_yawnsLike 82 = .ok (.ireturn, 1) := by decide +kernel
theorem dX9_yawnsLike_83 : decode cX9_yawnsLike 83 = .ok (.iinc 6 1, 3) := by decide +kernel
theorem dX9_yawnsLike_86 : decode cX9_yawnsLike 86 = .ok (.goto (-80), 3) := by decide +kernel
theorem dX9_yawnsLike_89 : decode cX9_yawnsLike 89 = .ok (.iconst 1, 1) := by decide +kernel
theorem dX9_yawnsLike_90 : decode cX9_yawnsLike 90 = .ok (.ireturn, 1) := by decide +kernel
theorem dX9_behindTurn_0 : decode cX9_behindTurn 0 = .ok (.iload_n 0, 1) := by decide +kernel
theorem dX9_behindTurn_1 : decode cX9_behindTurn 1 = .ok (.bipush 20, 2) := by decide +kernel
theorem dX9_behindTurn_3 : decode cX9_behindTurn 3 = .ok (.if_icmp .ne 18, 3) := by decide +kernel
theorem dX9_behindTurn_6 : decode cX9_behindTurn 6 = .ok (.iload_n 1, 1) := by decide +kernel
theorem dX9_behindTurn_7 : decode cX9_behindTurn 7 = .ok (.iconst (-1), 1) := by decide +kernel
theorem dX9_behindTurn_8 : decode cX9_behindTurn 8 = .ok (.ixor, 1) := by decide +kernel
theorem dX9_behindTurn_9 : decode cX9_behindTurn 9 = .ok (.sipush 1023, 3) := by decide +kernel
theorem dX9_behindTurn_12 : decode cX9_behindTurn 12 = .ok (.iand, 1) := by decide +kernel
theorem dX9_behindTurn_13 : decode cX9_behindTurn 13 = .ok (.istore_n 2, 1) := by decide +kernel
theorem dX9_behindTurn_14 : decode cX9_behindTurn 14 = .ok (.iload_n 1, 1) := by decide +kernel
theorem dX9_behindTurn_15 : decode cX9_behindTurn 15 = .ok (.iload_n 2, 1) := by decide +kernel
theorem dX9_behindTurn_16 : decode cX9_behindTurn 16 = .ok (.iload_n 2, 1) := by decide +kernel
theorem dX9_behindTurn_17 : decode cX9_behindTurn 17 = .ok (.ineg, 1) := by decide +kernel
theorem dX9_behindTurn_18 : decode cX9_behindTurn 18 = .ok (.iand, 1) := by decide +kernel
theorem dX9_behindTurn_19 : decode cX9_behindTurn 19 = .ok (.ior, 1) := by decide +kernel
theorem dX9_behindTurn_20 : decode cX9_behindTurn 20 = .ok (.ireturn, 1) := by decide +kernel
theorem dX9_behindTurn_21 : decode cX9_behindTurn 21 = .ok (.iload_n 0, 1) := by decide +kernel
theorem dX9_behindTurn_22 : decode cX9_behindTurn 22 = .ok (.invokestatic 55, 3) := by decide +kernel
theorem dX9_behindTurn_25 : decode cX9_behindTurn 25 = .ok (.ifCond .eq 14, 3) := by decide +kernel
theorem dX9_behindTurn_28 : decode cX9_behindTurn 28 = .ok (.iload_n 1, 1) := by decide +kernel
theorem dX9_behindTurn_29 : decode cX9_behindTurn 29 = .ok (.iload_n 0, 1) := by decide +kernel
theorem dX9_behindTurn_30 : decode cX9_behindTurn 30 = .ok (.invokestatic 46, 3) := by decide +kernel
theorem dX9_behindTurn_33 : decode cX9_behindTurn 33 = .ok (.iconst (-1), 1) := by decide +kernel
theorem dX9_behindTurn_34 : decode cX9_behindTurn 34 = .ok (.ixor, 1) := by decide +kernel
theorem dX9_behindTurn_35 : decode cX9_behindTurn 35 = .ok (.iand, 1) := by decide +kernel
theorem dX9_behindTurn_36 : decode cX9_behindTurn 36 = .ok (.goto 9, 3) := by decide +kernel
theorem dX9_behindTurn_39 : decode cX9_behindTurn 39 = .ok (.iload_n 1, 1) := by decide +kernel
theorem dX9_behindTurn_40 : decode cX9_behindTurn 40 = .ok (.iload_n 0, 1) := by decide +kernel
theorem dX9_behindTurn_41 : decode cX9_behindTurn 41 = .ok (.invokestatic 46, 3) := by decide +kernel
theorem dX9_behindTurn_44 : decode cX9_behindTurn 44 = .ok (.ior, 1) := by decide +kernel
theorem dX9_behindTurn_45 : decode cX9_behindTurn 45 = .ok (.ireturn, 1) := by decide +kernel
theorem dX9_isClosing_0 : decode cX9_isClosing 0 = .ok (.iload_n 0, 1) := by decide +kernel
theorem dX9_isClosing_1 : decode cX9_isClosing 1 = .ok (.bipush 10, 2) := by decide +kernel
theorem dX9_isClosing_3 : decode cX9_isClosing 3 = .ok (.if_icmp .lt 13, 3) := by decide +kernel
theorem dX9_isClosing_6 : decode cX9_isClosing 6 = .ok (.iload_n 0, 1) := by decide +kernel
theorem dX9_isClosing_7 : decode cX9_isClosing 7 = .ok (.bipush 20, 2) := by decide +kernel
theorem dX9_isClosing_9 : decode cX9_isClosing 9 = .ok (.if_icmp .ge 7, 3) := by decide +kernel
theorem dX9_isClosing_12 : decode cX9_isClosing 12 = .ok (.iconst 1, 1) := by decide +kernel
theorem dX9_isClosing_13 : decode cX9_isClosing 13 = .ok (.goto 4, 3) := by decide +kernel
theorem dX9_isClosing_16 : decode cX9_isClosing 16 = .ok (.iconst 0, 1) := by decide +kernel
theorem dX9_isClosing_17 : decode cX9_isClosing 17 = .ok (.ireturn, 1) := by decide +kernel
theorem dX9_namedBy_0 : decode cX9_namedBy 0 = .ok (.iload_n 0, 1) := by decide +kernel
theorem dX9_namedBy_1 : decode cX9_namedBy 1 = .ok (.ifCond .lt 9, 3) := by decide +kernel
theorem dX9_namedBy_4 : decode cX9_namedBy 4 = .ok (.iload_n 0, 1) := by decide +kernel
theorem dX9_namedBy_5 : decode cX9_namedBy 5 = .ok (.bipush 20, 2) := by decide +kernel
theorem dX9_namedBy_7 : decode cX9_namedBy 7 = .ok (.if_icmp .lt 5, 3) := by decide +kernel
theorem dX9_namedBy_10 : decode cX9_namedBy 10 = .ok (.iconst 0, 1) := by decide +kernel
theorem dX9_namedBy_11 : decode cX9_namedBy 11 = .ok (.ireturn, 1) := by decide +kernel
theorem dX9_namedBy_12 : decode cX9_namedBy 12 = .ok (.iconst 1, 1) := by decide +kernel
theorem dX9_namedBy_13 : decode cX9_namedBy 13 = .ok (.iload_n 0, 1) := by decide +kernel
theorem dX9_namedBy_14 : decode cX9_namedBy 14 = .ok (.invokestatic 55, 3) := by decide +kernel
theorem dX9_namedBy_17 : decode cX9_namedBy 17 = .ok (.ifCond .eq 10, 3) := by decide +kernel
theorem dX9_namedBy_20 : decode cX9_namedBy 20 = .ok (.iload_n 0, 1) := by decide +kernel
theorem dX9_namedBy_21 : decode cX9_namedBy 21 = .ok (.bipush 10, 2) := by decide +kernel
theorem dX9_namedBy_23 : decode cX9_namedBy 23 = .ok (.isub, 1) := by decide +kernel
theorem dX9_namedBy_24 : decode cX9_namedBy 24 = .ok (.goto 4, 3) := by decide +kernel
theorem dX9_namedBy_27 : decode cX9_namedBy 27 = .ok (.iload_n 0, 1) := by decide +kernel
theorem dX9_namedBy_28 : decode cX9_namedBy 28 = .ok (.ishl, 1) := by decide +kernel
theorem dX9_namedBy_29 : decode cX9_namedBy 29 = .ok (.ireturn, 1) := by decide +kernel
theorem dX10_init_0 : decode cX10_init 0 = .ok (.aload_n 0, 1) := by decide +kernel
theorem dX10_init_1 : decode cX10_init 1 = .ok (.invokespecial 3, 3) := by decide +kernel
theorem dX10_init_4 : decode cX10_init 4 = .ok (.aload_n 0, 1) := by decide +kernel
theorem dX10_init_5 : decode cX10_init 5 = .ok (.bipush 73, 2) := by decide +kernel
theorem dX10_init_7 : decode cX10_init 7 = .ok (.newarray .int, 2) := by decide +kernel
theorem dX10_init_9 : decode cX10_init 9 = .ok (.putfield 9, 3) := by decide +kernel
theorem dX10_init_12 : decode cX10_init 12 = .ok (.aload_n 0, 1) := by decide +kernel
theorem dX10_init_13 : decode cX10_init 13 = .ok (.iconst 0, 1) := by decide +kernel
theorem dX10_init_14 : decode cX10_init 14 = .ok (.putfield 15, 3) := by decide +kernel
theorem dX10_init_17 : decode cX10_init 17 = .ok (.aload_n 0, 1) := by decide +kernel
theorem dX10_init_18 : decode cX10_init 18 = .ok (.iconst 0, 1) := by decide +kernel
theorem dX10_init_19 : decode cX10_init 19 = .ok (.newarray .int, 2) := by decide +kernel
theorem dX10_init_21 : decode cX10_init 21 = .ok (.putfield 19, 3) := by decide +kernel
theorem dX10_init_24 : decode cX10_init 24 = .ok (.aload_n 0, 1) := by decide +kernel
theorem dX10_init_25 : decode cX10_init 25 = .ok (.iconst 0, 1) := by decide +kernel
theorem dX10_init_26 : decode cX10_init 26 = .ok (.putfield 22, 3) := by decide +kernel
theorem dX10_init_29 : decode cX10_init 29 = .ok (.aload_n 0, 1) := by decide +kernel
theorem dX10_init_30 : decode cX10_init 30 = .ok (.iconst 0, 1) := by decide +kernel
theorem dX10_init_31 : decode cX10_init 31 = .ok (.putfield 25, 3) := by decide +kernel
theorem dX10_init_34 : decode cX10_init 34 = .ok (.aload_n 0, 1) := by decide +kernel
theorem dX10_init_35 : decode cX10_init 35 = .ok (.iconst 0, 1) := by decide +kernel
theorem dX10_init_36 : decode cX10_init 36 = .ok (.putfield 28, 3) := by decide +kernel
theorem dX10_init_39 : decode cX10_init 39 = .ok (.return_, 1) := by decide +kernel
theorem dX10_read_0 : decode cX10_read 0 = .ok (.aload_n 0, 1) := by decide +kernel
theorem dX10_read_1 : decode cX10_read 1 = .ok (.aload_n 1, 1) := by decide +kernel
theorem dX10_read_2 : decode cX10_read 2 = .ok (.putfield 19, 3) := by decide +kernel
theorem dX10_read_5 : decode cX10_read 5 = .ok (.aload_n 0, 1) := by decide +kernel
theorem dX10_read_6 : decode cX10_read 6 = .ok (.iload_n 2, 1) := by decide +kernel
theorem dX10_read_7 : decode cX10_read 7 = .ok (.aload_n 1, 1) := by decide +kernel
theorem dX10_read_8 : decode cX10_read 8 = .ok (.arraylength, 1) := by decide +kernel
theorem dX10_read_9 : decode cX10_read 9 = .ok (.invokestatic 31, 3) := by decide +kernel
theorem dX10_read_12 : decode cX10_read 12 = .ok (.putfield 22, 3) := by decide +kernel
theorem dX10_read_15 : decode cX10_read 15 = .ok (.aload_n 0, 1) := by decide +kernel
theorem dX10_read_16 : decode cX10_read 16 = .ok (.iconst 0, 1) := by decide +kernel
theorem dX10_read_17 : decode cX10_read 17 = .ok (.putfield 25, 3) := by decide +kernel
theorem dX10_read_20 : decode cX10_read 20 = .ok (.aload_n 0, 1) := by decide +kernel
theorem dX10_read_21 : decode cX10_read 21 = .ok (.iconst 0, 1) := by decide +kernel
theorem dX10_read_22 : decode cX10_read 22 = .ok (.putfield 28, 3) := by decide +kernel
theorem dX10_read_25 : decode cX10_read 25 = .ok (.aload_n 0, 1) := by decide +kernel
theorem dX10_read_26 : decode cX10_read 26 = .ok (.iconst 0, 1) := by decide +kernel
theorem dX10_read_27 : decode cX10_read 27 = .ok (.putfield 15, 3) := by decide +kernel
theorem dX10_read_30 : decode cX10_read 30 = .ok (.aload_n 0, 1) := by decide +kernel
theorem dX10_read_31 : decode cX10_read 31 = .ok (.iconst 0, 1) := by decide +kernel
theorem dX10_read_32 : decode cX10_read 32 = .ok (.invokevirtual 37, 3) := by decide +kernel
theorem dX10_read_35 : decode cX10_read 35 = .ok (.aload_n 0, 1) := by decide +kernel
theorem dX10_read_36 : decode cX10_read 36 = .ok (.getfield 28, 3) := by decide +kernel
theorem dX10_read_39 : decode cX10_read 39 = .ok (.ifCond .eq 10, 3) := by decide +kernel
theorem dX10_read_42 : decode cX10_read 42 = .ok (.aload_n 0, 1) := by decide +kernel
theorem dX10_read_43 : decode cX10_read 43 = .ok (.getfield 28, 3) := by decide +kernel
theorem dX10_read_46 : decode cX10_read 46 = .ok (.goto 7, 3) := by decide +kernel
theorem dX10_read_49 : decode cX10_read 49 = .ok (.aload_n 0, 1) := by decide +kernel
theorem dX10_read_50 : decode cX10_read 50 = .ok (.getfield 15, 3) := by decide +kernel
theorem dX10_read_53 : decode cX10_read 53 = .ok (.ireturn, 1) := by decide +kernel
theorem dX10_readTurns_0 : decode cX10_readTurns 0 = .ok (.iconst 1, 1) := by decide +kernel
theorem dX10_readTurns_1 : decode cX10_readTurns 1 = .ok (.istore_n 2, 1) := by decide +kernel
theorem dX10_readTurns_2 : decode cX10_readTurns 2 = .ok (.iconst 0, 1) := by decide +kernel
theorem dX10_readTurns_3 : decode cX10_readTurns 3 = .ok (.istore_n 3, 1) := by decide +kernel
theorem dX10_readTurns_4 : decode cX10_readTurns 4 = .ok (.iload_n 3, 1) := by decide +kernel
theorem dX10_readTurns_5 : decode cX10_readTurns 5 = .ok (.bipush 80, 2) := by decide +kernel
theorem dX10_readTurns_7 : decode cX10_readTurns 7 = .ok (.if_icmp .ge 75, 3) := by decide +kernel
theorem dX10_readTurns_10 : decode cX10_readTurns 10 = .ok (.iload_n 2, 1) := by decide +kernel
theorem dX10_readTurns_11 : decode cX10_readTurns 11 = .ok (.ifCond .eq 71, 3) := by decide +kernel
theorem dX10_readTurns_14 : decode cX10_readTurns 14 = .ok (.aload_n 0, 1) := by decide +kernel
theorem dX10_readTurns_15 : decode cX10_readTurns 15 = .ok (.iload_n 1, 1) := by decide +kernel
theorem dX10_readTurns_16 : decode cX10_readTurns 16 = .ok (.invokevirtual 41, 3) := by decide +kernel
theorem dX10_readTurns_19 : decode cX10_readTurns 19 = .ok (.iload_n 1, 1) := by decide +kernel
theorem dX10_readTurns_20 : decode cX10_readTurns 20 = .ok (.ifCond .le 20, 3) := by decide +kernel
theorem dX10_readTurns_23 : decode cX10_readTurns 23 = .ok (.aload_n 0, 1) := by decide +kernel
theorem dX10_readTurns_24 : decode cX10_readTurns 24 = .ok (.invokevirtual 44, 3) := by decide +kernel
theorem dX10_readTurns_27 : decode cX10_readTurns 27 = .ok (.bipush 41, 2) := by decide +kernel
theorem dX10_readTurns_29 : decode cX10_readTurns 29 = .ok (.if_icmp .ne 7, 3) := by decide +kernel
theorem dX10_readTurns_32 : decode cX10_readTurns 32 = .ok (.iconst 1, 1) := by decide +kernel
theorem dX10_readTurns_33 : decode cX10_readTurns 33 = .ok (.goto 23, 3) := by decide +kernel
theorem dX10_readTurns_36 : decode cX10_readTurns 36 = .ok (.iconst 0, 1) := by decide +kernel
theorem dX10_readTurns_37 : decode cX10_readTurns 37 = .ok (.goto 19, 3) := by decide +kernel
theorem dX10_readTurns_40 : decode cX10_readTurns 40 = .ok (.aload_n 0, 1) := by decide +kernel
theorem dX10_readTurns_41 : decode cX10_readTurns 41 = .ok (.getfield 25, 3) := by decide +kernel
theorem dX10_readTurns_44 : decode cX10_readTurns 44 = .ok (.aload_n 0, 1) := by decide +kernel
theorem dX10_readTurns_45 : decode cX10_readTurns 45 = .ok (.getfield 22, 3) := by decide +kernel
theorem dX10_readTurns_48 : decode cX10_readTurns 48 = .ok (.if_icmp .lt 7, 3) := by decide +kernel
theorem dX10_readTurns_51 : decode cX10_readTurns 51 = .ok (.iconst 1, 1) := by decide +kernel
theorem dX10_readTurns_52 : decode cX10_readTurns 52 = .ok (.goto 4, 3) := by decide +kernel
theorem dX10_readTurns_55 : decode cX10_readTurns 55 = .ok (.iconst 0, 1) := by decide +kernel
theorem dX10_readTurns_56 : decode cX10_readTurns 56 = .ok (.istore 4, 2) := by decide +kernel
theorem dX10_readTurns_58 : decode cX10_readTurns 58 = .ok (.aload_n 0, 1) := by decide +kernel
theorem dX10_readTurns_59 : decode cX10_readTurns 59 = .ok (.getfield 28, 3) := by decide +kernel
theorem dX10_readTurns_62 : decode cX10_readTurns 62 = .ok (.ifCond .ne 12, 3) := by decide +kernel
theorem dX10_readTurns_65 : decode cX10_readTurns 65 = .ok (.iload 4, 2) := by decide +kernel
theorem dX10_readTurns_67 : decode cX10_readTurns 67 = .ok (.ifCond .ne 7, 3) := by decide +kernel
theorem dX10_readTurns_70 : decode cX10_readTurns 70 = .ok (.iconst 1, 1) := by decide +kernel
theorem dX10_readTurns_71 : decode cX10_readTurns 71 = .ok (.goto 4, 3) := by decide +kernel
theorem dX10_readTurns_74 : decode cX10_readTurns 74 = .ok (.iconst 0, 1) := by decide +kernel
theorem dX10_readTurns_75 : decode cX10_readTurns 75 = .ok (.istore_n 2, 1) := by decide +kernel
theorem dX10_readTurns_76 : decode cX10_readTurns 76 = .ok (.iinc 3 1, 3) := by decide +kernel
theorem dX10_readTurns_79 : decode cX10_readTurns 79 = .ok (.goto (-75), 3) := by decide +kernel
theorem dX10_readTurns_82 : decode cX10_readTurns 82 = .ok (.return_, 1) := by decide +kernel
theorem dX10_readTurn_0 : decode cX10_readTurn 0 = .ok (.aload_n 0, 1) := by decide +kernel
theorem dX10_readTurn_1 : decode cX10_readTurn 1 = .ok (.getfield 25, 3) := by decide +kernel
theorem dX10_readTurn_4 : decode cX10_readTurn 4 = .ok (.istore_n 2, 1) := by decide +kernel
theorem dX10_readTurn_5 : decode cX10_readTurn 5 = .ok (.iconst 1, 1) := by decide +kernel
theorem dX10_readTurn_6 : decode cX10_readTurn 6 = .ok (.istore_n 3, 1) := by decide +kernel
theorem dX10_readTurn_7 : decode cX10_readTurn 7 = .ok (.aload_n 0, 1) := by decide +kernel
theorem dX10_readTurn_8 : decode cX10_readTurn 8 = .ok (.invokevirtual 44, 3) := by decide +kernel
theorem dX10_readTurn_11 : decode cX10_readTurn 11 = .ok (.bipush 50, 2) := by decide +kernel
theorem dX10_readTurn_13 : decode cX10_readTurn 13 = .ok (.if_icmp .lt 30, 3) := by decide +kernel
theorem dX10_readTurn_16 : decode cX10_readTurn 16 = .ok (.aload_n 0, 1) := by decide +kernel
theorem dX10_readTurn_17 : decode cX10_readTurn 17 = .ok (.invokevirtual 44, 3) := by decide +kernel
theorem dX10_readTurn_20 : decode cX10_readTurn 20 = .ok (.bipush 57, 2) := by decide +kernel
theorem dX10_readTurn_22 : decode cX10_readTurn 22 = .ok (.if_icmp .gt 21, 3) := by decide +kernel
theorem dX10_readTurn_25 : decode cX10_readTurn 25 = .ok (.aload_n 0, 1) := by decide +kernel
theorem dX10_readTurn_26 : decode cX10_readTurn 26 = .ok (.invokevirtual 44, 3) := by decide +kernel
theorem dX10_readTurn_29 : decode cX10_readTurn 29 = .ok (.bipush 48, 2) := by decide +kernel
theorem dX10_readTurn_31 : decode cX10_readTurn 31 = .ok (.isub, 1) := by decide +kernel
theorem dX10_readTurn_32 : decode cX10_readTurn 32 = .ok (.istore_n 3, 1) := by decide +kernel
theorem dX10_readTurn_33 : decode cX10_readTurn 33 = .ok (.aload_n 0, 1) := by decide +kernel
theorem dX10_readTurn_34 : decode cX10_readTurn 34 = .ok (.dup, 1) := by decide +kernel
theorem dX10_readTurn_35 : decode cX10_readTurn 35 = .ok (.getfield 25, 3) := by decide +kernel
theorem dX10_readTurn_38 : decode cX10_readTurn 38 = .ok (.iconst 1, 1) := by decide +kernel
theorem dX10_readTurn_39 : decode cX10_readTurn 39 = .ok (.iadd, 1) := by decide +kernel
theorem dX10_readTurn_40 : decode cX10_readTurn 40 = .ok (.putfield 25, 3) := by decide +kernel
theorem dX10_readTurn_43 : decode cX10_readTurn 43 = .ok (.aload_n 0, 1) := by decide +kernel
theorem dX10_readTurn_44 : decode cX10_readTurn 44 = .ok (.getfield 15, 3) := by decide +kernel
theorem dX10_readTurn_47 : decode cX10_readTurn 47 = .ok (.istore 4, 2) := by decide +kernel
theorem dX10_readTurn_49 : decode cX10_readTurn 49 = .ok (.aload_n 0, 1) := by decide +kernel
theorem dX10_readTurn_50 : decode cX10_readTurn 50 = .ok (.invokevirtual 44, 3) := by decide +kernel
theorem dX10_readTurn_53 : decode cX10_readTurn 53 = .ok (.bipush 40, 2) := by decide +kernel
theorem dX10_readTurn_55 : decode cX10_readTurn 55 = .ok (.if_icmp .ne 11, 3) := by decide +kernel
theorem dX10_readTurn_58 : decode cX10_readTurn 58 = .ok (.aload_n 0, 1) := by decide +kernel
theorem dX10_readTurn_59 : decode cX10_readTurn 59 = .ok (.iload_n 1, 1) := by decide +kernel
theorem dX10_readTurn_60 : decode cX10_readTurn 60 = .ok (.invokevirtual 48, 3) := by decide +kernel
theorem dX10_readTurn_63 : decode cX10_readTurn 63 = .ok (.goto 7, 3) := by decide +kernel
theorem dX10_readTurn_66 : decode cX10_readTurn 66 = .ok (.aload_n 0, 1) := by decide +kernel
theorem dX10_readTurn_67 : decode cX10_readTurn 67 = .ok (.invokevirtual 51, 3) := by decide +kernel
theorem dX10_readTurn_70 : decode cX10_readTurn 70 = .ok (.aload_n 0, 1) := by decide +kernel
theorem dX10_readTurn_71 : decode cX10_readTurn 71 = .ok (.getfield 28, 3) := by decide +kernel
theorem dX10_readTurn_74 : decode cX10_readTurn 74 = .ok (.ifCond .ne 27, 3) := by decide +kernel
theorem dX10_readTurn_77 : decode cX10_readTurn 77 = .ok (.iload 4, 2) := by decide +kernel
theorem dX10_readTurn_79 : decode cX10_readTurn 79 = .ok (.aload_n 0, 1) := by decide +kernel
theorem dX10_readTurn_80 : decode cX10_readTurn 80 = .ok (.getfield 15, 3) := by decide +kernel
theorem dX10_readTurn_83 : decode cX10_readTurn 83 = .ok (.iload 4, 2) := by decide +kernel
theorem dX10_readTurn_85 : decode cX10_readTurn 85 = .ok (.isub, 1) := by decide +kernel
theorem dX10_readTurn_86 : decode cX10_readTurn 86 = .ok (.iload_n 3, 1) := by decide +kernel
theorem dX10_readTurn_87 : decode cX10_readTurn 87 = .ok (.imul, 1) := by decide +kernel
theorem dX10_readTurn_88 : decode cX10_readTurn 88 = .ok (.iadd, 1) := by decide +kernel
theorem dX10_readTurn_89 : decode cX10_readTurn 89 = .ok (.bipush 72, 2) := by decide +kernel
theorem dX10_readTurn_91 : decode cX10_readTurn 91 = .ok (.if_icmp .le 10, 3) := by decide +kernel
theorem dX10_readTurn_94 : decode cX10_readTurn 94 = .ok (.aload_n 0, 1) := by decide +kernel
theorem dX10_readTurn_95 : decode cX10_readTurn 95 = .ok (.bipush 6, 2) := by decide +kernel
theorem dX10_readTurn_97 : decode cX10_readTurn 97 = .ok (.iload_n 2, 1) := by decide +kernel
theorem dX10_readTurn_98 : decode cX10_readTurn 98 = .ok (.invokevirtual 54, 3) := by decide +kernel
theorem dX10_readTurn_101 : decode cX10_readTurn 101 = .ok (.aload_n 0, 1) := by decide +kernel
theorem dX10_readTurn_102 : decode cX10_readTurn 102 = .ok (.getfield 28, 3) := by decide +kernel
theorem dX10_readTurn_105 : decode cX10_readTurn 105 = .ok (.ifCond .ne 10, 3) := by decide +kernel
theorem dX10_readTurn_108 : decode cX10_readTurn 108 = .ok (.aload_n 0, 1) := by decide +kernel
theorem dX10_readTurn_109 : decode cX10_readTurn 109 = .ok (.iload 4, 2) := by decide +kernel
theorem dX10_readTurn_111 : decode cX10_readTurn 111 = .ok (.iload_n 3, 1) := by decide +kernel
theorem dX10_readTurn_112 : decode cX10_readTurn 112 = .ok (.invokevirtual 58, 3) := by decide +kernel
theorem dX10_readTurn_115 : decode cX10_readTurn 115 = .ok (.return_, 1) := by decide +kernel
theorem dX10_readGroup_0 : decode cX10_readGroup 0 = .ok (.iload_n 1, 1) := by decide +kernel
theorem dX10_readGroup_1 : decode cX10_readGroup 1 = .ok (.iconst 2, 1) := by decide +kernel
theorem dX10_readGroup_2 : decode cX10_readGroup 2 = .ok (.if_icmp .lt 13, 3) := by decide +kernel
theorem dX10_readGroup_5 : decode cX10_readGroup 5 = .ok (.aload_n 0, 1) := by decide +kernel
theorem dX10_readGroup_6 : decode cX10_readGroup 6 = .ok (.iconst 5, 1) := by decide +kernel
theorem dX10_readGroup_7 : decode cX10_readGroup 7 = .ok (.aload_n 0, 1) := by decide +kernel
theorem dX10_readGroup_8 : decode cX10_readGroup 8 = .ok (.getfield 25, 3) := by decide +kernel
theorem dX10_readGroup_11 : decode cX10_readGroup 11 = .ok (.invokevirtual 54, 3) := by decide +kernel
theorem dX10_readGroup_14 : decode cX10_readGroup 14 = .ok (.return_, 1) := by decide +kernel
theorem dX10_readGroup_15 : decode cX10_readGroup 15 = .ok (.aload_n 0, 1) := by decide +kernel
theorem dX10_readGroup_16 : decode cX10_readGroup 16 = .ok (.dup, 1) := by decide +kernel
theorem dX10_readGroup_17 : decode cX10_readGroup 17 = .ok (.getfield 25, 3) := by decide +kernel
theorem dX10_readGroup_20 : decode cX10_readGroup 20 = .ok (.iconst 1, 1) := by decide +kernel
theorem dX10_readGroup_21 : decode cX10_readGroup 21 = .ok (.iadd, 1) := by decide +kernel
theorem dX10_readGroup_22 : decode cX10_readGroup 22 = .ok (.putfield 25, 3) := by decide +kernel
theorem dX10_readGroup_25 : decode cX10_readGroup 25 = .ok (.aload_n 0, 1) := by decide +kernel
theorem dX10_readGroup_26 : decode cX10_readGroup 26 = .ok (.iload_n 1, 1) := by decide +kernel
theorem dX10_readGroup_27 : decode cX10_readGroup 27 = .ok (.iconst 1, 1) := by decide +kernel
theorem dX10_readGroup_28 : decode cX10_readGroup 28 = .ok (.iadd, 1) := by decide +kernel
theorem dX10_readGroup_29 : decode cX10_readGroup 29 = .ok (.invokevirtual 37, 3) := by decide +kernel
theorem dX10_readGroup_32 : decode cX10_readGroup 32 = .ok (.aload_n 0, 1) := by decide +kernel
theorem dX10_readGroup_33 : decode cX10_readGroup 33 = .ok (.getfield 28, 3) := by decide +kernel
theorem dX10_readGroup_36 : decode cX10_readGroup 36 = .ok (.ifCond .ne 21, 3) := by decide +kernel
theorem dX10_readGroup_39 : decode cX10_readGroup 39 = .ok (.aload_n 0, 1) := by decide +kernel
theorem dX10_readGroup_40 : decode cX10_readGroup 40 = .ok (.invokevirtual 44, 3) := by decide +kernel
theorem dX10_readGroup_43 : decode cX10_readGroup 43 = .ok (.bipush 41, 2) := by decide +kernel
theorem dX10_readGroup_45 : decode cX10_readGroup 45 = .ok (.if_icmp .eq 12, 3) := by decide +kernel
theorem dX10_readGroup_48 : decode cX10_readGroup 48 = .ok (.aload_n 0, 1) := by decide +kernel
theorem dX10_readGroup_49 : decode cX10_readGroup 49 = .ok (.iconst 1, 1) := by decide +kernel
theorem dX10_readGroup_50 : decode cX10_readGroup 50 = .ok (.aload_n 0, 1) := by decide +kernel
theorem dX10_readGroup_51 : decode cX10_readGroup 51 = .ok (.getfield 25, 3) := by decide +kernel
theorem dX10_readGroup_54 : decode cX10_readGroup 54 = .ok (.invokevirtual 54, 3) := by decide +kernel
theorem dX10_readGroup_57 : decode cX10_readGroup 57 = .ok (.aload_n 0, 1) := by decide +kernel
theorem dX10_readGroup_58 : decode cX10_readGroup 58 = .ok (.dup, 1) := by decide +kernel
theorem dX10_readGroup_59 : decode cX10_readGroup 59 = .ok (.getfield 25, 3) := by decide +kernel
theorem dX10_readGroup_62 : decode cX10_readGroup 62 = .ok (.iconst 1, 1) := by decide +kernel
theorem dX10_readGroup_63 : decode cX10_readGroup 63 = .ok (.iadd, 1) := by decide +kernel
theorem dX10_readGroup_64 : decode cX10_readGroup 64 = .ok (.putfield 25, 3) := by decide +kernel
theorem dX10_readGroup_67 : decode cX10_readGroup 67 = .ok (.return_, 1) := by decide +kernel
theorem dX10_readLetter_0 : decode cX10_readLetter 0 = .ok (.aload_n 0, 1) := by decide +kernel
theorem dX10_readLetter_1 : decode cX10_readLetter 1 = .ok (.invokevirtual 44, 3) := by decide +kernel
theorem dX10_readLetter_4 : decode cX10_readLetter 4 = .ok (.ifCond .ge 7, 3) := by decide +kernel
theorem dX10_readLetter_7 : decode cX10_readLetter 7 = .ok (.iconst (-1), 1) := by decide +kernel
theorem dX10_readLetter_8 : decode cX10_readLetter 8 = .ok (.goto 13, 3) := by decide +kernel
theorem dX10_readLetter_11 : decode cX10_readLetter 11 = .ok (.ldc 63, 2) := by decide +kernel
theorem dX10_readLetter_13 : decode cX10_readLetter 13 = .ok (.aload_n 0, 1) := by decide +kernel
theorem dX10_readLetter_14 : decode cX10_readLetter 14 = .ok (.invokevirtual 44, 3) := by decide +kernel
theorem dX10_readLetter_17 : decode cX10_readLetter 17 = .ok (.i2c, 1) := by decide +kernel
theorem dX10_readLetter_18 : decode cX10_readLetter 18 = .ok (.invokevirtual 65, 3) := by decide +kernel
theorem dX10_readLetter_21 : decode cX10_readLetter 21 = .ok (.istore_n 1, 1) := by decide +kernel
theorem dX10_readLetter_22 : decode cX10_readLetter 22 = .ok (.iload_n 1, 1) := by decide +kernel
theorem dX10_readLetter_23 : decode cX10_readLetter 23 = .ok (.ifCond .ge 15, 3) := by decide +kernel
theorem dX10_readLetter_26 : decode cX10_readLetter 26 = .ok (.aload_n 0, 1) := by decide +kernel
theorem dX10_readLetter_27 : decode cX10_readLetter 27 = .ok (.iconst 1, 1) := by decide +kernel
theorem dX10_readLetter_28 : decode cX10_readLetter 28 = .ok (.aload_n 0, 1) := by decide +kernel
theorem dX10_readLetter_29 : decode cX10_readLetter 29 = .ok (.getfield 25, 3) := by decide +kernel
theorem dX10_readLetter_32 : decode cX10_readLetter 32 = .ok (.invokevirtual 54, 3) := by decide +kernel
theorem dX10_readLetter_35 : decode cX10_readLetter 35 = .ok (.goto 35, 3) := by decide +kernel
theorem dX10_readLetter_38 : decode cX10_readLetter 38 = .ok (.aload_n 0, 1) := by decide +kernel
theorem dX10_readLetter_39 : decode cX10_readLetter 39 = .ok (.getfield 15, 3) := by decide +kernel
theorem dX10_readLetter_42 : decode cX10_readLetter 42 = .ok (.aload_n 0, 1) := by decide +kernel
theorem dX10_readLetter_43 : decode cX10_readLetter 43 = .ok (.getfield 9, 3) := by decide +kernel
theorem dX10_readLetter_46 : decode cX10_readLetter 46 = .ok (.arraylength, 1) := by decide +kernel
theorem dX10_readLetter_47 : decode cX10_readLetter 47 = .ok (.if_icmp .ge 23, 3) := by decide +kernel
theorem dX10_readLetter_50 : decode cX10_readLetter 50 = .ok (.aload_n 0, 1) := by decide +kernel
theorem dX10_readLetter_51 : decode cX10_readLetter 51 = .ok (.getfield 9, 3) := by decide +kernel
theorem dX10_readLetter_54 : decode cX10_readLetter 54 = .ok (.aload_n 0, 1) := by decide +kernel
theorem dX10_readLetter_55 : decode cX10_readLetter 55 = .ok (.getfield 15, 3) := by decide +kernel
theorem dX10_readLetter_58 : decode cX10_readLetter 58 = .ok (.iload_n 1, 1) := by decide +kernel
theorem dX10_readLetter_59 : decode cX10_readLetter 59 = .ok (.iastore, 1) := by decide +kernel
theorem dX10_readLetter_60 : decode cX10_readLetter 60 = .ok (.aload_n 0, 1) := by decide +kernel
theorem dX10_readLetter_61 : decode cX10_readLetter 61 = .ok (.dup, 1) := by decide +kernel
theorem dX10_readLetter_62 : decode cX10_readLetter 62 = .ok (.getfield 15, 3) := by decide +kernel
theorem dX10_readLetter_65 : decode cX10_readLetter 65 = .ok (.iconst 1, 1) := by decide +kernel
theorem dX10_readLetter_66 : decode cX10_readLetter 66 = .ok (.iadd, 1) := by decide +kernel
theorem dX10_readLetter_67 : decode cX10_readLetter 67 = .ok (.putfield 15, 3) := by decide +kernel
theorem dX10_readLetter_70 : decode cX10_readLetter 70 = .ok (.aload_n 0, 1) := by decide +kernel
theorem dX10_readLetter_71 : decode cX10_readLetter 71 = .ok (.dup, 1) := by decide +kernel
theorem dX10_readLetter_72 : decode cX10_readLetter 72 = .ok (.getfield 25, 3) := by decide +kernel
theorem dX10_readLetter_75 : decode cX10_readLetter 75 = .ok (.iconst 1, 1) := by decide +kernel
theorem dX10_readLetter_76 : decode cX10_readLetter 76 = .ok (.iadd, 1) := by decide +kernel
theorem dX10_readLetter_77 : decode cX10_readLetter 77 = .ok (.putfield 25, 3) := by decide +kernel
theorem dX10_readLetter_80 : decode cX10_readLetter 80 = .ok (.return_, 1) := by decide +kernel
theorem dX10_repeat_0 : decode cX10_repeat 0 = .ok (.iload_n 1, 1) := by decide +kernel
theorem dX10_repeat_1 : decode cX10_repeat 1 = .ok (.aload_n 0, 1) := by decide +kernel
theorem dX10_repeat_2 : decode cX10_repeat 2 = .ok (.getfield 15, 3) := by decide +kernel
theorem dX10_repeat_5 : decode cX10_repeat 5 = .ok (.iload_n 1, 1) := by decide +kernel
theorem dX10_repeat_6 : decode cX10_repeat 6 = .ok (.isub, 1) := by decide +kernel
theorem dX10_repeat_7 : decode cX10_repeat 7 = .ok (.iload_n 2, 1) := by decide +kernel
theorem dX10_repeat_8 : decode cX10_repeat 8 = .ok (.imul, 1) := by decide +kernel
theorem dX10_repeat_9 : decode cX10_repeat 9 = .ok (.iadd, 1) := by decide +kernel
theorem dX10_repeat_10 : decode cX10_repeat 10 = .ok (.bipush 72, 2) := by decide +kernel
theorem dX10_repeat_12 : decode cX10_repeat 12 = .ok (.invokestatic 31, 3) := by decide +kernel
theorem dX10_repeat_15 : decode cX10_repeat 15 = .ok (.istore_n 3, 1) := by decide +kernel
theorem dX10_repeat_16 : decode cX10_repeat 16 = .ok (.aload_n 0, 1) := by decide +kernel
theorem dX10_repeat_17 : decode cX10_repeat 17 = .ok (.getfield 15, 3) := by decide +kernel
theorem dX10_repeat_20 : decode cX10_repeat 20 = .ok (.iload_n 1, 1) := by decide +kernel
theorem dX10_repeat_21 : decode cX10_repeat 21 = .ok (.isub, 1) := by decide +kernel
theorem dX10_repeat_22 : decode cX10_repeat 22 = .ok (.istore 4, 2) := by decide +kernel
theorem dX10_repeat_24 : decode cX10_repeat 24 = .ok (.aload_n 0, 1) := by decide +kernel
theorem dX10_repeat_25 : decode cX10_repeat 25 = .ok (.getfield 15, 3) := by decide +kernel
theorem dX10_repeat_28 : decode cX10_repeat 28 = .ok (.istore 5, 2) := by decide +kernel
theorem dX10_repeat_30 : decode cX10_repeat 30 = .ok (.iload 5, 2) := by decide +kernel
theorem dX10_repeat_32 : decode cX10_repeat 32 = .ok (.iload_n 3, 1) := by decide +kernel
theorem dX10_repeat_33 : decode cX10_repeat 33 = .ok (.if_icmp .ge 44, 3) := by decide +kernel
theorem dX10_repeat_36 : decode cX10_repeat 36 = .ok (.iload 5, 2) := by decide +kernel
theorem dX10_repeat_38 : decode cX10_repeat 38 = .ok (.iload 4, 2) := by decide +kernel
theorem dX10_repeat_40 : decode cX10_repeat 40 = .ok (.isub, 1) := by decide +kernel
theorem dX10_repeat_41 : decode cX10_repeat 41 = .ok (.ifCond .lt 36, 3) := by decide +kernel
theorem dX10_repeat_44 : decode cX10_repeat 44 = .ok (.aload_n 0, 1) := by decide +kernel
theorem dX10_repeat_45 : decode cX10_repeat 45 = .ok (.getfield 9, 3) := by decide +kernel
theorem dX10_repeat_48 : decode cX10_repeat 48 = .ok (.iload 5, 2) := by decide +kernel
theorem dX10_repeat_50 : decode cX10_repeat 50 = .ok (.aload_n 0, 1) := by decide +kernel
theorem dX10_repeat_51 : decode cX10_repeat 51 = .ok (.getfield 9, 3) := by decide +kernel
theorem dX10_repeat_54 : decode cX10_repeat 54 = .ok (.iload 5, 2) := by decide +kernel
theorem dX10_repeat_56 : decode cX10_repeat 56 = .ok (.iload 4, 2) := by decide +kernel
theorem dX10_repeat_58 : decode cX10_repeat 58 = .ok (.isub, 1) := by decide +kernel
theorem dX10_repeat_59 : decode cX10_repeat 59 = .ok (.iaload, 1) := by decide +kernel
theorem dX10_repeat_60 : decode cX10_repeat 60 = .ok (.iastore, 1) := by decide +kernel
theorem dX10_repeat_61 : decode cX10_repeat 61 = .ok (.aload_n 0, 1) := by decide +kernel
theorem dX10_repeat_62 : decode cX10_repeat 62 = .ok (.dup, 1) := by decide +kernel
theorem dX10_repeat_63 : decode cX10_repeat 63 = .ok (.getfield 15, 3) := by decide +kernel
theorem dX10_repeat_66 : decode cX10_repeat 66 = .ok (.iconst 1, 1) := by decide +kernel
theorem dX10_repeat_67 : decode cX10_repeat 67 = .ok (.iadd, 1) := by decide +kernel
theorem dX10_repeat_68 : decode cX10_repeat 68 = .ok (.putfield 15, 3) := by decide +kernel
theorem dX10_repeat_71 : decode cX10_repeat 71 = .ok (.iinc 5 1, 3) := by decide +kernel
theorem dX10_repeat_74 : decode cX10_repeat 74 = .ok (.goto (-44), 3) := by decide +kernel
theorem dX10_repeat_77 : decode cX10_repeat 77 = .ok (.return_, 1) := by decide +kernel
theorem dX10_sign_0 : decode cX10_sign 0 = .ok (.aload_n 0, 1) := by decide +kernel
theorem dX10_sign_1 : decode cX10_sign 1 = .ok (.getfield 25, 3) := by decide +kernel
theorem dX10_sign_4 : decode cX10_sign 4 = .ok (.ifCond .lt 38, 3) := by decide +kernel
theorem dX10_sign_7 : decode cX10_sign 7 = .ok (.aload_n 0, 1) := by decide +kernel
theorem dX10_sign_8 : decode cX10_sign 8 = .ok (.getfield 25, 3) := by decide +kernel
theorem dX10_sign_11 : decode cX10_sign 11 = .ok (.aload_n 0, 1) := by decide +kernel
theorem dX10_sign_12 : decode cX10_sign 12 = .ok (.getfield 22, 3) := by decide +kernel
theorem dX10_sign_15 : decode cX10_sign 15 = .ok (.if_icmp .ge 27, 3) := by decide +kernel
theorem dX10_sign_18 : decode cX10_sign 18 = .ok (.aload_n 0, 1) := by decide +kernel
theorem dX10_sign_19 : decode cX10_sign 19 = .ok (.getfield 25, 3) := by decide +kernel
theorem dX10_sign_22 : decode cX10_sign 22 = .ok (.aload_n 0, 1) := by decide +kernel
theorem dX10_sign_23 : decode cX10_sign 23 = .ok (.getfield 19, 3) := by decide +kernel
theorem dX10_sign_26 : decode cX10_sign 26 = .ok (.arraylength, 1) := by decide +kernel
theorem dX10_sign_27 : decode cX10_sign 27 = .ok (.if_icmp .ge 15, 3) := by decide +kernel
theorem dX10_sign_30 : decode cX10_sign 30 = .ok (.aload_n 0, 1) := by decide +kernel
theorem dX10_sign_31 : decode cX10_sign 31 = .ok (.getfield 19, 3) := by decide +kernel
theorem dX10_sign_34 : decode cX10_sign 34 = .ok (.aload_n 0, 1) := by decide +kernel
theorem dX10_sign_35 : decode cX10_sign 35 = .ok (.getfield 25, 3) := by decide +kernel
theorem dX10_sign_38 : decode cX10_sign 38 = .ok (.iaload, 1) := by decide +kernel
theorem dX10_sign_39 : decode cX10_sign 39 = .ok (.goto 4, 3) := by decide +kernel
theorem dX10_sign_42 : decode cX10_sign 42 = .ok (.iconst (-1), 1) := by decide +kernel
theorem dX10_sign_43 : decode cX10_sign 43 = .ok (.ireturn, 1) := by decide +kernel
theorem dX10_refuse_0 : decode cX10_refuse 0 = .ok (.aload_n 0, 1) := by decide +kernel
theorem dX10_refuse_1 : decode cX10_refuse 1 = .ok (.getfield 28, 3) := by decide +kernel
theorem dX10_refuse_4 : decode cX10_refuse 4 = .ok (.ifCond .ne 14, 3) := by decide +kernel
theorem dX10_refuse_7 : decode cX10_refuse 7 = .ok (.aload_n 0, 1) := by decide +kernel
theorem dX10_refuse_8 : decode cX10_refuse 8 = .ok (.sipush (-1000), 3) := by decide +kernel
theorem dX10_refuse_11 : decode cX10_refuse 11 = .ok (.iload_n 1, 1) := by decide +kernel
theorem dX10_refuse_12 : decode cX10_refuse 12 = .ok (.imul, 1) := by decide +kernel
theorem dX10_refuse_13 : decode cX10_refuse 13 = .ok (.iload_n 2, 1) := by decide +kernel
theorem dX10_refuse_14 : decode cX10_refuse 14 = .ok (.isub, 1) := by decide +kernel
theorem dX10_refuse_15 : decode cX10_refuse 15 = .ok (.putfield 28, 3) := by decide +kernel
theorem dX10_refuse_18 : decode cX10_refuse 18 = .ok (.return_, 1) := by decide +kernel
