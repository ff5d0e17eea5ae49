theorem dX1_init_0 : decode cX1_init 0 = .ok (.aload_n 0, 1) := by decide +kernel
theorem dX1_init_1 : decode cX1_init 1 = .ok (.invokespecial 3, 3) := by decide +kernel
theorem dX1_init_4 : decode cX1_init 4 = .ok (.aload_n 0, 1) := by decide +kernel
theorem dX1_init_5 : decode cX1_init 5 = .ok (.bipush 100, 2) := by decide +kernel
theorem dX1_init_7 : decode cX1_init 7 = .ok (.newarray .int, 2) := by decide +kernel
theorem dX1_init_9 : decode cX1_init 9 = .ok (.putfield 9, 3) := by decide +kernel
theorem dX1_init_12 : decode cX1_init 12 = .ok (.aload_n 0, 1) := by decide +kernel
theorem dX1_init_13 : decode cX1_init 13 = .ok (.bipush 100, 2) := by decide +kernel
theorem dX1_init_15 : decode cX1_init 15 = .ok (.newarray .int, 2) := by decide +kernel
theorem dX1_init_17 : decode cX1_init 17 = .ok (.putfield 15, 3) := by decide +kernel
theorem dX1_init_20 : decode cX1_init 20 = .ok (.aload_n 0, 1) := by decide +kernel
theorem dX1_init_21 : decode cX1_init 21 = .ok (.bipush 10, 2) := by decide +kernel
theorem dX1_init_23 : decode cX1_init 23 = .ok (.newarray .int, 2) := by decide +kernel
theorem dX1_init_25 : decode cX1_init 25 = .ok (.putfield 18, 3) := by decide +kernel
theorem dX1_init_28 : decode cX1_init 28 = .ok (.aload_n 0, 1) := by decide +kernel
theorem dX1_init_29 : decode cX1_init 29 = .ok (.bipush 10, 2) := by decide +kernel
theorem dX1_init_31 : decode cX1_init 31 = .ok (.newarray .int, 2) := by decide +kernel
theorem dX1_init_33 : decode cX1_init 33 = .ok (.putfield 21, 3) := by decide +kernel
theorem dX1_init_36 : decode cX1_init 36 = .ok (.aload_n 0, 1) := by decide +kernel
theorem dX1_init_37 : decode cX1_init 37 = .ok (.bipush 10, 2) := by decide +kernel
theorem dX1_init_39 : decode cX1_init 39 = .ok (.newarray .int, 2) := by decide +kernel
theorem dX1_init_41 : decode cX1_init 41 = .ok (.putfield 24, 3) := by decide +kernel
theorem dX1_init_44 : decode cX1_init 44 = .ok (.aload_n 0, 1) := by decide +kernel
theorem dX1_init_45 : decode cX1_init 45 = .ok (.bipush 10, 2) := by decide +kernel
theorem dX1_init_47 : decode cX1_init 47 = .ok (.newarray .int, 2) := by decide +kernel
theorem dX1_init_49 : decode cX1_init 49 = .ok (.putfield 27, 3) := by decide +kernel
theorem dX1_init_52 : decode cX1_init 52 = .ok (.return_, 1) := by decide +kernel
theorem dX1_start_0 : decode cX1_start 0 = .ok (.aload_n 0, 1) := by decide +kernel
theorem dX1_start_1 : decode cX1_start 1 = .ok (.iconst 1, 1) := by decide +kernel
theorem dX1_start_2 : decode cX1_start 2 = .ok (.putfield 30, 3) := by decide +kernel
theorem dX1_start_5 : decode cX1_start 5 = .ok (.aload_n 0, 1) := by decide +kernel
theorem dX1_start_6 : decode cX1_start 6 = .ok (.iload_n 1, 1) := by decide +kernel
theorem dX1_start_7 : decode cX1_start 7 = .ok (.putfield 34, 3) := by decide +kernel
theorem dX1_start_10 : decode cX1_start 10 = .ok (.aload_n 0, 1) := by decide +kernel
theorem dX1_start_11 : decode cX1_start 11 = .ok (.iload_n 2, 1) := by decide +kernel
theorem dX1_start_12 : decode cX1_start 12 = .ok (.putfield 38, 3) := by decide +kernel
theorem dX1_start_15 : decode cX1_start 15 = .ok (.aload_n 0, 1) := by decide +kernel
theorem dX1_start_16 : decode cX1_start 16 = .ok (.iload_n 3, 1) := by decide +kernel
theorem dX1_start_17 : decode cX1_start 17 = .ok (.putfield 41, 3) := by decide +kernel
theorem dX1_start_20 : decode cX1_start 20 = .ok (.aload_n 0, 1) := by decide +kernel
theorem dX1_start_21 : decode cX1_start 21 = .ok (.iconst 0, 1) := by decide +kernel
theorem dX1_start_22 : decode cX1_start 22 = .ok (.putfield 44, 3) := by decide +kernel
theorem dX1_start_25 : decode cX1_start 25 = .ok (.aload_n 0, 1) := by decide +kernel
theorem dX1_start_26 : decode cX1_start 26 = .ok (.iconst 0, 1) := by decide +kernel
theorem dX1_start_27 : decode cX1_start 27 = .ok (.putfield 47, 3) := by decide +kernel
theorem dX1_start_30 : decode cX1_start 30 = .ok (.return_, 1) := by decide +kernel
theorem dX1_addInstruction_0 : decode cX1_addInstruction 0 = .ok (.aload_n 0, 1) := by decide +kernel
theorem dX1_addInstruction_1 : decode cX1_addInstruction 1 = .ok (.getfield 9, 3) := by decide +kernel
theorem dX1_addInstruction_4 : decode cX1_addInstruction 4 = .ok (.aload_n 0, 1) := by decide +kernel
theorem dX1_addInstruction_5 : decode cX1_addInstruction 5 = .ok (.getfield 44, 3) := by decide +kernel
theorem dX1_addInstruction_8 : decode cX1_addInstruction 8 = .ok (.iload_n 1, 1) := by decide +kernel
theorem dX1_addInstruction_9 : decode cX1_addInstruction 9 = .ok (.iastore, 1) := by decide +kernel
theorem dX1_addInstruction_10 : decode cX1_addInstruction 10 = .ok (.aload_n 0, 1) := by decide +kernel
theorem dX1_addInstruction_11 : decode cX1_addInstruction 11 = .ok (.getfield 15, 3) := by decide +kernel
theorem dX1_addInstruction_14 : decode cX1_addInstruction 14 = .ok (.aload_n 0, 1) := by decide +kernel
theorem dX1_addInstruction_15 : decode cX1_addInstruction 15 = .ok (.getfield 44, 3) := by decide +kernel
theorem dX1_addInstruction_18 : decode cX1_addInstruction 18 = .ok (.iload_n 2, 1) := by decide +kernel
theorem dX1_addInstruction_19 : decode cX1_addInstruction 19 = .ok (.iastore, 1) := by decide +kernel
theorem dX1_addInstruction_20 : decode cX1_addInstruction 20 = .ok (.aload_n 0, 1) := by decide +kernel
theorem dX1_addInstruction_21 : decode cX1_addInstruction 21 = .ok (.dup, 1) := by decide +kernel
theorem dX1_addInstruction_22 : decode cX1_addInstruction 22 = .ok (.getfield 44, 3) := by decide +kernel
theorem dX1_addInstruction_25 : decode cX1_addInstruction 25 = .ok (.iconst 1, 1) := by decide +kernel
theorem dX1_addInstruction_26 : decode cX1_addInstruction 26 = .ok (.iadd, 1) := by decide +kernel
theorem dX1_addInstruction_27 : decode cX1_addInstruction 27 = .ok (.putfield 44, 3) := by decide +kernel
theorem dX1_addInstruction_30 : decode cX1_addInstruction 30 = .ok (.aload_n 0, 1) := by decide +kernel
theorem dX1_addInstruction_31 : decode cX1_addInstruction 31 = .ok (.getfield 44, 3) := by decide +kernel
theorem dX1_addInstruction_34 : decode cX1_addInstruction 34 = .ok (.iconst 1, 1) := by decide +kernel
theorem dX1_addInstruction_35 : decode cX1_addInstruction 35 = .ok (.isub, 1) := by decide +kernel
theorem dX1_addInstruction_36 : decode cX1_addInstruction 36 = .ok (.ireturn, 1) := by decide +kernel
theorem dX1_addProtection_0 : decode cX1_addProtection 0 = .ok (.aload_n 0, 1) := by decide +kernel
theorem dX1_addProtection_1 : decode cX1_addProtection 1 = .ok (.getfield 18, 3) := by decide +kernel
theorem dX1_addProtection_4 : decode cX1_addProtection 4 = .ok (.aload_n 0, 1) := by decide +kernel
theorem dX1_addProtection_5 : decode cX1_addProtection 5 = .ok (.getfield 47, 3) := by decide +kernel
theorem dX1_addProtection_8 : decode cX1_addProtection 8 = .ok (.iload_n 1, 1) := by decide +kernel
theorem dX1_addProtection_9 : decode cX1_addProtection 9 = .ok (.iastore, 1) := by decide +kernel
theorem dX1_addProtection_10 : decode cX1_addProtection 10 = .ok (.aload_n 0, 1) := by decide +kernel
theorem dX1_addProtection_11 : decode cX1_addProtection 11 = .ok (.getfield 21, 3) := by decide +kernel
theorem dX1_addProtection_14 : decode cX1_addProtection 14 = .ok (.aload_n 0, 1) := by decide +kernel
theorem dX1_addProtection_15 : decode cX1_addProtection 15 = .ok (.getfield 47, 3) := by decide +kernel
theorem dX1_addProtection_18 : decode cX1_addProtection 18 = .ok (.iload_n 2, 1) := by decide +kernel
theorem dX1_addProtection_19 : decode cX1_addProtection 19 = .ok (.iastore, 1) := by decide +kernel
theorem dX1_addProtection_20 : decode cX1_addProtection 20 = .ok (.aload_n 0, 1) := by decide +kernel
theorem dX1_addProtection_21 : decode cX1_addProtection 21 = .ok (.getfield 24, 3) := by decide +kernel
theorem dX1_addProtection_24 : decode cX1_addProtection 24 = .ok (.aload_n 0, 1) := by decide +kernel
theorem dX1_addProtection_25 : decode cX1_addProtection 25 = .ok (.getfield 47, 3) := by decide +kernel
theorem dX1_addProtection_28 : decode cX1_addProtection 28 = .ok (.iload_n 3, 1) := by decide +kernel
theorem dX1_addProtection_29 : decode cX1_addProtection 29 = .ok (.iastore, 1) := by decide +kernel
theorem dX1_addProtection_30 : decode cX1_addProtection 30 = .ok (.aload_n 0, 1) := by decide +kernel
theorem dX1_addProtection_31 : decode cX1_addProtection 31 = .ok (.getfield 27, 3) := by decide +kernel
theorem dX1_addProtection_34 : decode cX1_addProtection 34 = .ok (.aload_n 0, 1) := by decide +kernel
theorem dX1_addProtection_35 : decode cX1_addProtection 35 = .ok (.getfield 47, 3) := by decide +kernel
theorem dX1_addProtection_38 : decode cX1_addProtection 38 = .ok (.iload 4, 2) := by decide +kernel
theorem dX1_addProtection_40 : decode cX1_addProtection 40 = .ok (.iastore, 1) := by decide +kernel
theorem dX1_addProtection_41 : decode cX1_addProtection 41 = .ok (.aload_n 0, 1) := by decide +kernel
theorem dX1_addProtection_42 : decode cX1_addProtection 42 = .ok (.dup, 1) := by decide +kernel
theorem dX1_addProtection_43 : decode cX1_addProtection 43 = .ok (.getfield 47, 3) := by decide +kernel
theorem dX1_addProtection_46 : decode cX1_addProtection 46 = .ok (.iconst 1, 1) := by decide +kernel
theorem dX1_addProtection_47 : decode cX1_addProtection 47 = .ok (.iadd, 1) := by decide +kernel
theorem dX1_addProtection_48 : decode cX1_addProtection 48 = .ok (.putfield 47, 3) := by decide +kernel
theorem dX1_addProtection_51 : decode cX1_addProtection 51 = .ok (.aload_n 0, 1) := by decide +kernel
theorem dX1_addProtection_52 : decode cX1_addProtection 52 = .ok (.getfield 47, 3) := by decide +kernel
theorem dX1_addProtection_55 : decode cX1_addProtection 55 = .ok (.iconst 1, 1) := by decide +kernel
theorem dX1_addProtection_56 : decode cX1_addProtection 56 = .ok (.isub, 1) := by decide +kernel
theorem dX1_addProtection_57 : decode cX1_addProtection 57 = .ok (.ireturn, 1) := by decide +kernel
theorem dX1_isIndex_0 : decode cX1_isIndex 0 = .ok (.iload_n 1, 1) := by decide +kernel
theorem dX1_isIndex_1 : decode cX1_isIndex 1 = .ok (.ifCond .lt 15, 3) := by decide +kernel
theorem dX1_isIndex_4 : decode cX1_isIndex 4 = .ok (.iload_n 1, 1) := by decide +kernel
theorem dX1_isIndex_5 : decode cX1_isIndex 5 = .ok (.aload_n 0, 1) := by decide +kernel
theorem dX1_isIndex_6 : decode cX1_isIndex 6 = .ok (.getfield 44, 3) := by decide +kernel
theorem dX1_isIndex_9 : decode cX1_isIndex 9 = .ok (.if_icmp .ge 7, 3) := by decide +kernel
theorem dX1_isIndex_12 : decode cX1_isIndex 12 = .ok (.iconst 1, 1) := by decide +kernel
theorem dX1_isIndex_13 : decode cX1_isIndex 13 = .ok (.goto 4, 3) := by decide +kernel
theorem dX1_isIndex_16 : decode cX1_isIndex 16 = .ok (.iconst 0, 1) := by decide +kernel
theorem dX1_isIndex_17 : decode cX1_isIndex 17 = .ok (.ireturn, 1) := by decide +kernel
theorem dX1_protects_0 : decode cX1_protects 0 = .ok (.aload_n 0, 1) := by decide +kernel
theorem dX1_protects_1 : decode cX1_protects 1 = .ok (.getfield 18, 3) := by decide +kernel
theorem dX1_protects_4 : decode cX1_protects 4 = .ok (.iload_n 1, 1) := by decide +kernel
theorem dX1_protects_5 : decode cX1_protects 5 = .ok (.iaload, 1) := by decide +kernel
theorem dX1_protects_6 : decode cX1_protects 6 = .ok (.iload_n 2, 1) := by decide +kernel
theorem dX1_protects_7 : decode cX1_protects 7 = .ok (.if_icmp .gt 17, 3) := by decide +kernel
theorem dX1_protects_10 : decode cX1_protects 10 = .ok (.iload_n 2, 1) := by decide +kernel
theorem dX1_protects_11 : decode cX1_protects 11 = .ok (.aload_n 0, 1) := by decide +kernel
theorem dX1_protects_12 : decode cX1_protects 12 = .ok (.getfield 21, 3) := by decide +kernel
theorem dX1_protects_15 : decode cX1_protects 15 = .ok (.iload_n 1, 1) := by decide +kernel
theorem dX1_protects_16 : decode cX1_protects 16 = .ok (.iaload, 1) := by decide +kernel
theorem dX1_protects_17 : decode cX1_protects 17 = .ok (.if_icmp .ge 7, 3) := by decide +kernel
theorem dX1_protects_20 : decode cX1_protects 20 = .ok (.iconst 1, 1) := by decide +kernel
theorem dX1_protects_21 : decode cX1_protects 21 = .ok (.goto 4, 3) := by decide +kernel
theorem dX1_protects_24 : decode cX1_protects 24 = .ok (.iconst 0, 1) := by decide +kernel
theorem dX1_protects_25 : decode cX1_protects 25 = .ok (.ireturn, 1) := by decide +kernel
theorem dX1_creates_0 : decode cX1_creates 0 = .ok (.aload_n 0, 1) := by decide +kernel
theorem dX1_creates_1 : decode cX1_creates 1 = .ok (.iload_n 1, 1) := by decide +kernel
theorem dX1_creates_2 : decode cX1_creates 2 = .ok (.invokevirtual 50, 3) := by decide +kernel
theorem dX1_creates_5 : decode cX1_creates 5 = .ok (.ifCond .eq 28, 3) := by decide +kernel
theorem dX1_creates_8 : decode cX1_creates 8 = .ok (.aload_n 0, 1) := by decide +kernel
theorem dX1_creates_9 : decode cX1_creates 9 = .ok (.getfield 9, 3) := by decide +kernel
theorem dX1_creates_12 : decode cX1_creates 12 = .ok (.iload_n 1, 1) := by decide +kernel
theorem dX1_creates_13 : decode cX1_creates 13 = .ok (.iaload, 1) := by decide +kernel
theorem dX1_creates_14 : decode cX1_creates 14 = .ok (.bipush 34, 2) := by decide +kernel
theorem dX1_creates_16 : decode cX1_creates 16 = .ok (.if_icmp .ne 17, 3) := by decide +kernel
theorem dX1_creates_19 : decode cX1_creates 19 = .ok (.aload_n 0, 1) := by decide +kernel
theorem dX1_creates_20 : decode cX1_creates 20 = .ok (.getfield 15, 3) := by decide +kernel
theorem dX1_creates_23 : decode cX1_creates 23 = .ok (.iload_n 1, 1) := by decide +kernel
theorem dX1_creates_24 : decode cX1_creates 24 = .ok (.iaload, 1) := by decide +kernel
theorem dX1_creates_25 : decode cX1_creates 25 = .ok (.iload_n 2, 1) := by decide +kernel
theorem dX1_creates_26 : decode cX1_creates 26 = .ok (.if_icmp .ne 7, 3) := by decide +kernel
theorem dX1_creates_29 : decode cX1_creates 29 = .ok (.iconst 1, 1) := by decide +kernel
theorem dX1_creates_30 : decode cX1_creates 30 = .ok (.goto 4, 3) := by decide +kernel
theorem dX1_creates_33 : decode cX1_creates 33 = .ok (.iconst 0, 1) := by decide +kernel
theorem dX1_creates_34 : decode cX1_creates 34 = .ok (.ireturn, 1) := by decide +kernel
theorem dX2_init_0 : decode cX2_init 0 = .ok (.aload_n 0, 1) := by decide +kernel
theorem dX2_init_1 : decode cX2_init 1 = .ok (.invokespecial 3, 3) := by decide +kernel
theorem dX2_init_4 : decode cX2_init 4 = .ok (.aload_n 0, 1) := by decide +kernel
theorem dX2_init_5 : decode cX2_init 5 = .ok (.aload_n 1, 1) := by decide +kernel
theorem dX2_init_6 : decode cX2_init 6 = .ok (.putfield 9, 3) := by decide +kernel
theorem dX2_init_9 : decode cX2_init 9 = .ok (.aload_n 0, 1) := by decide +kernel
theorem dX2_init_10 : decode cX2_init 10 = .ok (.aload_n 2, 1) := by decide +kernel
theorem dX2_init_11 : decode cX2_init 11 = .ok (.putfield 15, 3) := by decide +kernel
theorem dX2_init_14 : decode cX2_init 14 = .ok (.aload_n 0, 1) := by decide +kernel
theorem dX2_init_15 : decode cX2_init 15 = .ok (.aload_n 3, 1) := by decide +kernel
theorem dX2_init_16 : decode cX2_init 16 = .ok (.putfield 19, 3) := by decide +kernel
theorem dX2_init_19 : decode cX2_init 19 = .ok (.aload_n 0, 1) := by decide +kernel
theorem dX2_init_20 : decode cX2_init 20 = .ok (.iconst (-1), 1) := by decide +kernel
theorem dX2_init_21 : decode cX2_init 21 = .ok (.putfield 23, 3) := by decide +kernel
theorem dX2_init_24 : decode cX2_init 24 = .ok (.return_, 1) := by decide +kernel
theorem dX2_run_0 : decode cX2_run 0 = .ok (.aload_n 0, 1) := by decide +kernel
theorem dX2_run_1 : decode cX2_run 1 = .ok (.iconst 0, 1) := by decide +kernel
theorem dX2_run_2 : decode cX2_run 2 = .ok (.putfield 23, 3) := by decide +kernel
theorem dX2_run_5 : decode cX2_run 5 = .ok (.aload_n 0, 1) := by decide +kernel
theorem dX2_run_6 : decode cX2_run 6 = .ok (.getfield 19, 3) := by decide +kernel
theorem dX2_run_9 : decode cX2_run 9 = .ok (.getfield 27, 3) := by decide +kernel
theorem dX2_run_12 : decode cX2_run 12 = .ok (.ifCond .ne 6, 3) := by decide +kernel
theorem dX2_run_15 : decode cX2_run 15 = .ok (.bipush 7, 2) := by decide +kernel
theorem dX2_run_17 : decode cX2_run 17 = .ok (.ireturn, 1) := by decide +kernel
theorem dX2_run_18 : decode cX2_run 18 = .ok (.iconst 0, 1) := by decide +kernel
theorem dX2_run_19 : decode cX2_run 19 = .ok (.istore_n 1, 1) := by decide +kernel
theorem dX2_run_20 : decode cX2_run 20 = .ok (.iload_n 1, 1) := by decide +kernel
theorem dX2_run_21 : decode cX2_run 21 = .ok (.aload_n 0, 1) := by decide +kernel
theorem dX2_run_22 : decode cX2_run 22 = .ok (.getfield 19, 3) := by decide +kernel
theorem dX2_run_25 : decode cX2_run 25 = .ok (.getfield 27, 3) := by decide +kernel
theorem dX2_run_28 : decode cX2_run 28 = .ok (.if_icmp .ge 41, 3) := by decide +kernel
theorem dX2_run_31 : decode cX2_run 31 = .ok (.aload_n 0, 1) := by decide +kernel
theorem dX2_run_32 : decode cX2_run 32 = .ok (.aload_n 0, 1) := by decide +kernel
theorem dX2_run_33 : decode cX2_run 33 = .ok (.getfield 19, 3) := by decide +kernel
theorem dX2_run_36 : decode cX2_run 36 = .ok (.getfield 32, 3) := by decide +kernel
theorem dX2_run_39 : decode cX2_run 39 = .ok (.iload_n 1, 1) := by decide +kernel
theorem dX2_run_40 : decode cX2_run 40 = .ok (.iaload, 1) := by decide +kernel
theorem dX2_run_41 : decode cX2_run 41 = .ok (.aload_n 0, 1) := by decide +kernel
theorem dX2_run_42 : decode cX2_run 42 = .ok (.getfield 19, 3) := by decide +kernel
theorem dX2_run_45 : decode cX2_run 45 = .ok (.getfield 36, 3) := by decide +kernel
theorem dX2_run_48 : decode cX2_run 48 = .ok (.iload_n 1, 1) := by decide +kernel
theorem dX2_run_49 : decode cX2_run 49 = .ok (.iaload, 1) := by decide +kernel
theorem dX2_run_50 : decode cX2_run 50 = .ok (.invokevirtual 39, 3) := by decide +kernel
theorem dX2_run_53 : decode cX2_run 53 = .ok (.ifCond .ne 10, 3) := by decide +kernel
theorem dX2_run_56 : decode cX2_run 56 = .ok (.aload_n 0, 1) := by decide +kernel
theorem dX2_run_57 : decode cX2_run 57 = .ok (.iload_n 1, 1) := by decide +kernel
theorem dX2_run_58 : decode cX2_run 58 = .ok (.putfield 23, 3) := by decide +kernel
theorem dX2_run_61 : decode cX2_run 61 = .ok (.iconst 1, 1) := by decide +kernel
theorem dX2_run_62 : decode cX2_run 62 = .ok (.ireturn, 1) := by decide +kernel
theorem dX2_run_63 : decode cX2_run 63 = .ok (.iinc 1 1, 3) := by decide +kernel
theorem dX2_run_66 : decode cX2_run 66 = .ok (.goto (-46), 3) := by decide +kernel
theorem dX2_run_69 : decode cX2_run 69 = .ok (.iconst 0, 1) := by decide +kernel
theorem dX2_run_70 : decode cX2_run 70 = .ok (.istore_n 1, 1) := by decide +kernel
theorem dX2_run_71 : decode cX2_run 71 = .ok (.iload_n 1, 1) := by decide +kernel
theorem dX2_run_72 : decode cX2_run 72 = .ok (.aload_n 0, 1) := by decide +kernel
theorem dX2_run_73 : decode cX2_run 73 = .ok (.getfield 19, 3) := by decide +kernel
theorem dX2_run_76 : decode cX2_run 76 = .ok (.getfield 43, 3) := by decide +kernel
theorem dX2_run_79 : decode cX2_run 79 = .ok (.if_icmp .ge 24, 3) := by decide +kernel
theorem dX2_run_82 : decode cX2_run 82 = .ok (.aload_n 0, 1) := by decide +kernel
theorem dX2_run_83 : decode cX2_run 83 = .ok (.iload_n 1, 1) := by decide +kernel
theorem dX2_run_84 : decode cX2_run 84 = .ok (.invokevirtual 46, 3) := by decide +kernel
theorem dX2_run_87 : decode cX2_run 87 = .ok (.ifCond .ne 10, 3) := by decide +kernel
theorem dX2_run_90 : decode cX2_run 90 = .ok (.aload_n 0, 1) := by decide +kernel
theorem dX2_run_91 : decode cX2_run 91 = .ok (.iload_n 1, 1) := by decide +kernel
theorem dX2_run_92 : decode cX2_run 92 = .ok (.putfield 23, 3) := by decide +kernel
theorem dX2_run_95 : decode cX2_run 95 = .ok (.iconst 2, 1) := by decide +kernel
theorem dX2_run_96 : decode cX2_run 96 = .ok (.ireturn, 1) := by decide +kernel
theorem dX2_run_97 : decode cX2_run 97 = .ok (.iinc 1 1, 3) := by decide +kernel
theorem dX2_run_100 : decode cX2_run 100 = .ok (.goto (-29), 3) := by decide +kernel
theorem dX2_run_103 : decode cX2_run 103 = .ok (.aload_n 0, 1) := by decide +kernel
theorem dX2_run_104 : decode cX2_run 104 = .ok (.getfield 15, 3) := by decide +kernel
theorem dX2_run_107 : decode cX2_run 107 = .ok (.aload_n 0, 1) := by decide +kernel
theorem dX2_run_108 : decode cX2_run 108 = .ok (.getfield 19, 3) := by decide +kernel
theorem dX2_run_111 : decode cX2_run 111 = .ok (.getfield 50, 3) := by decide +kernel
theorem dX2_run_114 : decode cX2_run 114 = .ok (.invokevirtual 53, 3) := by decide +kernel
theorem dX2_run_117 : decode cX2_run 117 = .ok (.aload_n 0, 1) := by decide +kernel
theorem dX2_run_118 : decode cX2_run 118 = .ok (.getfield 19, 3) := by decide +kernel
theorem dX2_run_121 : decode cX2_run 121 = .ok (.getfield 59, 3) := by decide +kernel
theorem dX2_run_124 : decode cX2_run 124 = .ok (.if_icmp .le 6, 3) := by decide +kernel
theorem dX2_run_127 : decode cX2_run 127 = .ok (.bipush 11, 2) := by decide +kernel
theorem dX2_run_129 : decode cX2_run 129 = .ok (.ireturn, 1) := by decide +kernel
theorem dX2_run_130 : decode cX2_run 130 = .ok (.aload_n 0, 1) := by decide +kernel
theorem dX2_run_131 : decode cX2_run 131 = .ok (.iconst (-1), 1) := by decide +kernel
theorem dX2_run_132 : decode cX2_run 132 = .ok (.putfield 23, 3) := by decide +kernel
theorem dX2_run_135 : decode cX2_run 135 = .ok (.iconst 0, 1) := by decide +kernel
theorem dX2_run_136 : decode cX2_run 136 = .ok (.ireturn, 1) := by decide +kernel
theorem dX2_isOperandAllowed_0 : decode cX2_isOperandAllowed 0 = .ok (.iload_n 1, 1) := by decide +kernel
theorem dX2_isOperandAllowed_1 : decode cX2_isOperandAllowed 1 = .ok (.tableswitch 333 4 45 #[183, 204, 183, 183, 204, 183, 333, 333, 333, 333, 333, 333, 333, 333, 333, 333, 333, 183, 227, 227, 227, 227, 227, 333, 333, 333, 333, 333, 236, 236, 245, 254, 264, 274, 284, 333, 333, 333, 333, 333, 309, 309], 183) := by decide +kernel
theorem dX2_isOperandAllowed_184 : decode cX2_isOperandAllowed 184 = .ok (.iload_n 2, 1) := by decide +kernel
theorem dX2_isOperandAllowed_185 : decode cX2_isOperandAllowed 185 = .ok (.ifCond .lt 18, 3) := by decide +kernel
theorem dX2_isOperandAllowed_188 : decode cX2_isOperandAllowed 188 = .ok (.iload_n 2, 1) := by decide +kernel
theorem dX2_isOperandAllowed_189 : decode cX2_isOperandAllowed 189 = .ok (.aload_n 0, 1) := by decide +kernel
theorem dX2_isOperandAllowed_190 : decode cX2_isOperandAllowed 190 = .ok (.getfield 19, 3) := by decide +kernel
theorem dX2_isOperandAllowed_193 : decode cX2_isOperandAllowed 193 = .ok (.getfield 59, 3) := by decide +kernel
theorem dX2_isOperandAllowed_196 : decode cX2_isOperandAllowed 196 = .ok (.if_icmp .ge 7, 3) := by decide +kernel
theorem dX2_isOperandAllowed_199 : decode cX2_isOperandAllowed 199 = .ok (.iconst 1, 1) := by decide +kernel
theorem dX2_isOperandAllowed_200 : decode cX2_isOperandAllowed 200 = .ok (.goto 4, 3) := by decide +kernel
theorem dX2_isOperandAllowed_203 : decode cX2_isOperandAllowed 203 = .ok (.iconst 0, 1) := by decide +kernel
theorem dX2_isOperandAllowed_204 : decode cX2_isOperandAllowed 204 = .ok (.ireturn, 1) := by decide +kernel
theorem dX2_isOperandAllowed_205 : decode cX2_isOperandAllowed 205 = .ok (.iload_n 2, 1) := by decide +kernel
theorem dX2_isOperandAllowed_206 : decode cX2_isOperandAllowed 206 = .ok (.ifCond .lt 20, 3) := by decide +kernel
theorem dX2_isOperandAllowed_209 : decode cX2_isOperandAllowed 209 = .ok (.iload_n 2, 1) := by decide +kernel
theorem dX2_isOperandAllowed_210 : decode cX2_isOperandAllowed 210 = .ok (.aload_n 0, 1) := by decide +kernel
theorem dX2_isOperandAllowed_211 : decode cX2_isOperandAllowed 211 = .ok (.getfield 19, 3) := by decide +kernel
theorem dX2_isOperandAllowed_214 : decode cX2_isOperandAllowed 214 = .ok (.getfield 59, 3) := by decide +kernel
theorem dX2_isOperandAllowed_217 : decode cX2_isOperandAllowed 217 = .ok (.iconst 1, 1) := by decide +kernel
theorem dX2_isOperandAllowed_218 : decode cX2_isOperandAllowed 218 = .ok (.isub, 1) := by decide +kernel
theorem dX2_isOperandAllowed_219 : decode cX2_isOperandAllowed 219 = .ok (.if_icmp .ge 7, 3) := by decide +kernel
theorem dX2_isOperandAllowed_222 : decode cX2_isOperandAllowed 222 = .ok (.iconst 1, 1) := by decide +kernel
theorem dX2_isOperandAllowed_223 : decode cX2_isOperandAllowed 223 = .ok (.goto 4, 3) := by decide +kernel
theorem dX2_isOperandAllowed_226 : decode cX2_isOperandAllowed 226 = .ok (.iconst 0, 1) := by decide +kernel
theorem dX2_isOperandAllowed_227 : decode cX2_isOperandAllowed 227 = .ok (.ireturn, 1) := by decide +kernel
theorem dX2_isOperandAllowed_228 : decode cX2_isOperandAllowed 228 = .ok (.aload_n 0, 1) := by decide +kernel
theorem dX2_isOperandAllowed_229 : decode cX2_isOperandAllowed 229 = .ok (.getfield 19, 3) := by decide +kernel
theorem dX2_isOperandAllowed_232 : decode cX2_isOperandAllowed 232 = .ok (.iload_n 2, 1) := by decide +kernel
theorem dX2_isOperandAllowed_233 : decode cX2_isOperandAllowed 233 = .ok (.invokevirtual 62, 3) := by decide +kernel
theorem dX2_isOperandAllowed_236 : decode cX2_isOperandAllowed 236 = .ok (.ireturn, 1) := by decide +kernel
theorem dX2_isOperandAllowed_237 : decode cX2_isOperandAllowed 237 = .ok (.aload_n 0, 1) := by decide +kernel
theorem dX2_isOperandAllowed_238 : decode cX2_isOperandAllowed 238 = .ok (.getfield 15, 3) := by decide +kernel
theorem dX2_isOperandAllowed_241 : decode cX2_isOperandAllowed 241 = .ok (.iload_n 2, 1) := by decide +kernel
theorem dX2_isOperandAllowed_242 : decode cX2_isOperandAllowed 242 = .ok (.invokevirtual 65, 3) := by decide +kernel
theorem dX2_isOperandAllowed_245 : decode cX2_isOperandAllowed 245 = .ok (.ireturn, 1) := by decide +kernel
theorem dX2_isOperandAllowed_246 : decode cX2_isOperandAllowed 246 = .ok (.aload_n 0, 1) := by decide +kernel
theorem dX2_isOperandAllowed_247 : decode cX2_isOperandAllowed 247 = .ok (.getfield 9, 3) := by decide +kernel
theorem dX2_isOperandAllowed_250 : decode cX2_isOperandAllowed 250 = .ok (.iload_n 2, 1) := by decide +kernel
theorem dX2_isOperandAllowed_251 : decode cX2_isOperandAllowed 251 = .ok (.invokevirtual 68, 3) := by decide +kernel
theorem dX2_isOperandAllowed_254 : decode cX2_isOperandAllowed 254 = .ok (.ireturn, 1) := by decide +kernel
theorem dX2_isOperandAllowed_255 : decode cX2_isOperandAllowed 255 = .ok (.aload_n 0, 1) := by decide +kernel
theorem dX2_isOperandAllowed_256 : decode cX2_isOperandAllowed 256 = .ok (.getfield 15, 3) := by decide +kernel
theorem dX2_isOperandAllowed_259 : decode cX2_isOperandAllowed 259 = .ok (.iload_n 2, 1) := by decide +kernel
theorem dX2_isOperandAllowed_260 : decode cX2_isOperandAllowed 260 = .ok (.iconst 2, 1) := by decide +kernel
theorem dX2_isOperandAllowed_261 : decode cX2_isOperandAllowed 261 = .ok (.invokevirtual 73, 3) := by decide +kernel
theorem dX2_isOperandAllowed_264 : decode cX2_isOperandAllowed 264 = .ok (.ireturn, 1) := by decide +kernel
theorem dX2_isOperandAllowed_265 : decode cX2_isOperandAllowed 265 = .ok (.aload_n 0, 1) := by decide +kernel
theorem dX2_isOperandAllowed_266 : decode cX2_isOperandAllowed 266 = .ok (.getfield 15, 3) := by decide +kernel
theorem dX2_isOperandAllowed_269 : decode cX2_isOperandAllowed 269 = .ok (.iload_n 2, 1) := by decide +kernel
theorem dX2_isOperandAllowed_270 : decode cX2_isOperandAllowed 270 = .ok (.iconst 0, 1) := by decide +kernel
theorem dX2_isOperandAllowed_271 : decode cX2_isOperandAllowed 271 = .ok (.invokevirtual 73, 3) := by decide +kernel
theorem dX2_isOperandAllowed_274 : decode cX2_isOperandAllowed 274 = .ok (.ireturn, 1) := by decide +kernel
theorem dX2_isOperandAllowed_275 : decode cX2_isOperandAllowed 275 = .ok (.aload_n 0, 1) := by decide +kernel
theorem dX2_isOperandAllowed_276 : decode cX2_isOperandAllowed 276 = .ok (.getfield 15, 3) := by decide +kernel
theorem dX2_isOperandAllowed_279 : decode cX2_isOperandAllowed 279 = .ok (.iload_n 2, 1) := by decide +kernel
theorem dX2_isOperandAllowed_280 : decode cX2_isOperandAllowed 280 = .ok (.iconst 1, 1) := by decide +kernel
theorem dX2_isOperandAllowed_281 : decode cX2_isOperandAllowed 281 = .ok (.invokevirtual 73, 3) := by decide +kernel
theorem dX2_isOperandAllowed_284 : decode cX2_isOperandAllowed 284 = .ok (.ireturn, 1) := by decide +kernel
theorem dX2_isOperandAllowed_285 : decode cX2_isOperandAllowed 285 = .ok (.aload_n 0, 1) := by decide +kernel
theorem dX2_isOperandAllowed_286 : decode cX2_isOperandAllowed 286 = .ok (.getfield 9, 3) := by decide +kernel
theorem dX2_isOperandAllowed_289 : decode cX2_isOperandAllowed 289 = .ok (.iload_n 2, 1) := by decide +kernel
theorem dX2_isOperandAllowed_290 : decode cX2_isOperandAllowed 290 = .ok (.invokevirtual 76, 3) := by decide +kernel
theorem dX2_isOperandAllowed_293 : decode cX2_isOperandAllowed 293 = .ok (.ifCond .eq 15, 3) := by decide +kernel
theorem dX2_isOperandAllowed_296 : decode cX2_isOperandAllowed 296 = .ok (.iload_n 2, 1) := by decide +kernel
theorem dX2_isOperandAllowed_297 : decode cX2_isOperandAllowed 297 = .ok (.bipush 8, 2) := by decide +kernel
theorem dX2_isOperandAllowed_299 : decode cX2_isOperandAllowed 299 = .ok (.irem, 1) := by decide +kernel
theorem dX2_isOperandAllowed_300 : decode cX2_isOperandAllowed 300 = .ok (.iconst 4, 1) := by decide +kernel
theorem dX2_isOperandAllowed_301 : decode cX2_isOperandAllowed 301 = .ok (.if_icmp .ge 7, 3) := by decide +kernel
theorem dX2_isOperandAllowed_304 : decode cX2_isOperandAllowed 304 = .ok (.iconst 1, 1) := by decide +kernel
theorem dX2_isOperandAllowed_305 : decode cX2_isOperandAllowed 305 = .ok (.goto 4, 3) := by decide +kernel
theorem dX2_isOperandAllowed_308 : decode cX2_isOperandAllowed 308 = .ok (.iconst 0, 1) := by decide +kernel
theorem dX2_isOperandAllowed_309 : decode cX2_isOperandAllowed 309 = .ok (.ireturn, 1) := by decide +kernel
theorem dX2_isOperandAllowed_310 : decode cX2_isOperandAllowed 310 = .ok (.aload_n 0, 1) := by decide +kernel
theorem dX2_isOperandAllowed_311 : decode cX2_isOperandAllowed 311 = .ok (.getfield 9, 3) := by decide +kernel
theorem dX2_isOperandAllowed_314 : decode cX2_isOperandAllowed 314 = .ok (.iload_n 2, 1) := by decide +kernel
theorem dX2_isOperandAllowed_315 : decode cX2_isOperandAllowed 315 = .ok (.invokevirtual 76, 3) := by decide +kernel
theorem dX2_isOperandAllowed_318 : decode cX2_isOperandAllowed 318 = .ok (.ifCond .eq 14, 3) := by decide +kernel
theorem dX2_isOperandAllowed_321 : decode cX2_isOperandAllowed 321 = .ok (.iload_n 2, 1) := by decide +kernel
theorem dX2_isOperandAllowed_322 : decode cX2_isOperandAllowed 322 = .ok (.invokestatic 79, 3) := by decide +kernel
theorem dX2_isOperandAllowed_325 : decode cX2_isOperandAllowed 325 = .ok (.ifCond .eq 7, 3) := by decide +kernel
theorem dX2_isOperandAllowed_328 : decode cX2_isOperandAllowed 328 = .ok (.iconst 1, 1) := by decide +kernel
theorem dX2_isOperandAllowed_329 : decode cX2_isOperandAllowed 329 = .ok (.goto 4, 3) := by decide +kernel
theorem dX2_isOperandAllowed_332 : decode cX2_isOperandAllowed 332 = .ok (.iconst 0, 1) := by decide +kernel
theorem dX2_isOperandAllowed_333 : decode cX2_isOperandAllowed 333 = .ok (.ireturn, 1) := by decide +kernel
theorem dX2_isOperandAllowed_334 : decode cX2_isOperandAllowed 334 = .ok (.iconst 1, 1) := by decide +kernel
theorem dX2_isOperandAllowed_335 : decode cX2_isOperandAllowed 335 = .ok (.ireturn, 1) := by decide +kernel
theorem dX2_isHandlerAllowed_0 : decode cX2_isHandlerAllowed 0 = .ok (.aload_n 0, 1) := by decide +kernel
theorem dX2_isHandlerAllowed_1 : decode cX2_isHandlerAllowed 1 = .ok (.getfield 19, 3) := by decide +kernel
theorem dX2_isHandlerAllowed_4 : decode cX2_isHandlerAllowed 4 = .ok (.getfield 82, 3) := by decide +kernel
theorem dX2_isHandlerAllowed_7 : decode cX2_isHandlerAllowed 7 = .ok (.iload_n 1, 1) := by decide +kernel
theorem dX2_isHandlerAllowed_8 : decode cX2_isHandlerAllowed 8 = .ok (.iaload, 1) := by decide +kernel
theorem dX2_isHandlerAllowed_9 : decode cX2_isHandlerAllowed 9 = .ok (.istore_n 2, 1) := by decide +kernel
theorem dX2_isHandlerAllowed_10 : decode cX2_isHandlerAllowed 10 = .ok (.aload_n 0, 1) := by decide +kernel
theorem dX2_isHandlerAllowed_11 : decode cX2_isHandlerAllowed 11 = .ok (.getfield 19, 3) := by decide +kernel
theorem dX2_isHandlerAllowed_14 : decode cX2_isHandlerAllowed 14 = .ok (.getfield 85, 3) := by decide +kernel
theorem dX2_isHandlerAllowed_17 : decode cX2_isHandlerAllowed 17 = .ok (.iload_n 1, 1) := by decide +kernel
theorem dX2_isHandlerAllowed_18 : decode cX2_isHandlerAllowed 18 = .ok (.iaload, 1) := by decide +kernel
theorem dX2_isHandlerAllowed_19 : decode cX2_isHandlerAllowed 19 = .ok (.istore_n 3, 1) := by decide +kernel
theorem dX2_isHandlerAllowed_20 : decode cX2_isHandlerAllowed 20 = .ok (.iload_n 2, 1) := by decide +kernel
theorem dX2_isHandlerAllowed_21 : decode cX2_isHandlerAllowed 21 = .ok (.ifCond .lt 23, 3) := by decide +kernel
theorem dX2_isHandlerAllowed_24 : decode cX2_isHandlerAllowed 24 = .ok (.iload_n 2, 1) := by decide +kernel
theorem dX2_isHandlerAllowed_25 : decode cX2_isHandlerAllowed 25 = .ok (.iload_n 3, 1) := by decide +kernel
theorem dX2_isHandlerAllowed_26 : decode cX2_isHandlerAllowed 26 = .ok (.if_icmp .ge 18, 3) := by decide +kernel
theorem dX2_isHandlerAllowed_29 : decode cX2_isHandlerAllowed 29 = .ok (.iload_n 3, 1) := by decide +kernel
theorem dX2_isHandlerAllowed_30 : decode cX2_isHandlerAllowed 30 = .ok (.aload_n 0, 1) := by decide +kernel
theorem dX2_isHandlerAllowed_31 : decode cX2_isHandlerAllowed 31 = .ok (.getfield 19, 3) := by decide +kernel
theorem dX2_isHandlerAllowed_34 : decode cX2_isHandlerAllowed 34 = .ok (.getfield 27, 3) := by decide +kernel
theorem dX2_isHandlerAllowed_37 : decode cX2_isHandlerAllowed 37 = .ok (.if_icmp .gt 7, 3) := by decide +kernel
theorem dX2_isHandlerAllowed_40 : decode cX2_isHandlerAllowed 40 = .ok (.iconst 1, 1) := by decide +kernel
theorem dX2_isHandlerAllowed_41 : decode cX2_isHandlerAllowed 41 = .ok (.goto 4, 3) := by decide +kernel
theorem dX2_isHandlerAllowed_44 : decode cX2_isHandlerAllowed 44 = .ok (.iconst 0, 1) := by decide +kernel
theorem dX2_isHandlerAllowed_45 : decode cX2_isHandlerAllowed 45 = .ok (.istore 4, 2) := by decide +kernel
theorem dX2_isHandlerAllowed_47 : decode cX2_isHandlerAllowed 47 = .ok (.iload 4, 2) := by decide +kernel
theorem dX2_isHandlerAllowed_49 : decode cX2_isHandlerAllowed 49 = .ok (.ifCond .eq 22, 3) := by decide +kernel
theorem dX2_isHandlerAllowed_52 : decode cX2_isHandlerAllowed 52 = .ok (.aload_n 0, 1) := by decide +kernel
theorem dX2_isHandlerAllowed_53 : decode cX2_isHandlerAllowed 53 = .ok (.getfield 19, 3) := by decide +kernel
theorem dX2_isHandlerAllowed_56 : decode cX2_isHandlerAllowed 56 = .ok (.aload_n 0, 1) := by decide +kernel
theorem dX2_isHandlerAllowed_57 : decode cX2_isHandlerAllowed 57 = .ok (.getfield 19, 3) := by decide +kernel
theorem dX2_isHandlerAllowed_60 : decode cX2_isHandlerAllowed 60 = .ok (.getfield 88, 3) := by decide +kernel
theorem dX2_isHandlerAllowed_63 : decode cX2_isHandlerAllowed 63 = .ok (.iload_n 1, 1) := by decide +kernel
theorem dX2_isHandlerAllowed_64 : decode cX2_isHandlerAllowed 64 = .ok (.iaload, 1) := by decide +kernel
theorem dX2_isHandlerAllowed_65 : decode cX2_isHandlerAllowed 65 = .ok (.invokevirtual 62, 3) := by decide +kernel
theorem dX2_isHandlerAllowed_68 : decode cX2_isHandlerAllowed 68 = .ok (.ifCond .ne 5, 3) := by decide +kernel
theorem dX2_isHandlerAllowed_71 : decode cX2_isHandlerAllowed 71 = .ok (.iconst 0, 1) := by decide +kernel
theorem dX2_isHandlerAllowed_72 : decode cX2_isHandlerAllowed 72 = .ok (.ireturn, 1) := by decide +kernel
theorem dX2_isHandlerAllowed_73 : decode cX2_isHandlerAllowed 73 = .ok (.iconst 0, 1) := by decide +kernel
theorem dX2_isHandlerAllowed_74 : decode cX2_isHandlerAllowed 74 = .ok (.istore 5, 2) := by decide +kernel
theorem dX2_isHandlerAllowed_76 : decode cX2_isHandlerAllowed 76 = .ok (.iload 5, 2) := by decide +kernel
theorem dX2_isHandlerAllowed_78 : decode cX2_isHandlerAllowed 78 = .ok (.iload_n 1, 1) := by decide +kernel
theorem dX2_isHandlerAllowed_79 : decode cX2_isHandlerAllowed 79 = .ok (.if_icmp .ge 91, 3) := by decide +kernel
theorem dX2_isHandlerAllowed_82 : decode cX2_isHandlerAllowed 82 = .ok (.aload_n 0, 1) := by decide +kernel
theorem dX2_isHandlerAllowed_83 : decode cX2_isHandlerAllowed 83 = .ok (.getfield 19, 3) := by decide +kernel
theorem dX2_isHandlerAllowed_86 : decode cX2_isHandlerAllowed 86 = .ok (.getfield 85, 3) := by decide +kernel
theorem dX2_isHandlerAllowed_89 : decode cX2_isHandlerAllowed 89 = .ok (.iload 5, 2) := by decide +kernel
theorem dX2_isHandlerAllowed_91 : decode cX2_isHandlerAllowed 91 = .ok (.iaload, 1) := by decide +kernel
theorem dX2_isHandlerAllowed_92 : decode cX2_isHandlerAllowed 92 = .ok (.iload_n 2, 1) := by decide +kernel
theorem dX2_isHandlerAllowed_93 : decode cX2_isHandlerAllowed 93 = .ok (.if_icmp .le 17, 3) := by decide +kernel
theorem dX2_isHandlerAllowed_96 : decode cX2_isHandlerAllowed 96 = .ok (.iload_n 3, 1) := by decide +kernel
theorem dX2_isHandlerAllowed_97 : decode cX2_isHandlerAllowed 97 = .ok (.aload_n 0, 1) := by decide +kernel
theorem dX2_isHandlerAllowed_98 : decode cX2_isHandlerAllowed 98 = .ok (.getfield 19, 3) := by decide +kernel
theorem dX2_isHandlerAllowed_101 : decode cX2_isHandlerAllowed 101 = .ok (.getfield 82, 3) := by decide +kernel
theorem dX2_isHandlerAllowed_104 : decode cX2_isHandlerAllowed 104 = .ok (.iload 5, 2) := by decide +kernel
theorem dX2_isHandlerAllowed_106 : decode cX2_isHandlerAllowed 106 = .ok (.iaload, 1) := by decide +kernel
theorem dX2_isHandlerAllowed_107 : decode cX2_isHandlerAllowed 107 = .ok (.if_icmp .gt 7, 3) := by decide +kernel
theorem dX2_isHandlerAllowed_110 : decode cX2_isHandlerAllowed 110 = .ok (.iconst 1, 1) := by decide +kernel
theorem dX2_isHandlerAllowed_111 : decode cX2_isHandlerAllowed 111 = .ok (.goto 4, 3) := by decide +kernel
theorem dX2_isHandlerAllowed_114 : decode cX2_isHandlerAllowed 114 = .ok (.iconst 0, 1) := by decide +kernel
theorem dX2_isHandlerAllowed_115 : decode cX2_isHandlerAllowed 115 = .ok (.istore 6, 2) := by decide +kernel
theorem dX2_isHandlerAllowed_117 : decode cX2_isHandlerAllowed 117 = .ok (.iload_n 2, 1) := by decide +kernel
theorem dX2_isHandlerAllowed_118 : decode cX2_isHandlerAllowed 118 = .ok (.aload_n 0, 1) := by decide +kernel
theorem dX2_isHandlerAllowed_119 : decode cX2_isHandlerAllowed 119 = .ok (.getfield 19, 3) := by decide +kernel
theorem dX2_isHandlerAllowed_122 : decode cX2_isHandlerAllowed 122 = .ok (.getfield 82, 3) := by decide +kernel
theorem dX2_isHandlerAllowed_125 : decode cX2_isHandlerAllowed 125 = .ok (.iload 5, 2) := by decide +kernel
theorem dX2_isHandlerAllowed_127 : decode cX2_isHandlerAllowed 127 = .ok (.iaload, 1) := by decide +kernel
theorem dX2_isHandlerAllowed_128 : decode cX2_isHandlerAllowed 128 = .ok (.if_icmp .gt 21, 3) := by decide +kernel
theorem dX2_isHandlerAllowed_131 : decode cX2_isHandlerAllowed 131 = .ok (.aload_n 0, 1) := by decide +kernel
theorem dX2_isHandlerAllowed_132 : decode cX2_isHandlerAllowed 132 = .ok (.getfield 19, 3) := by decide +kernel
theorem dX2_isHandlerAllowed_135 : decode cX2_isHandlerAllowed 135 = .ok (.getfield 85, 3) := by decide +kernel
theorem dX2_isHandlerAllowed_138 : decode cX2_isHandlerAllowed 138 = .ok (.iload 5, 2) := by decide +kernel
theorem dX2_isHandlerAllowed_140 : decode cX2_isHandlerAllowed 140 = .ok (.iaload, 1) := by decide +kernel
theorem dX2_isHandlerAllowed_141 : decode cX2_isHandlerAllowed 141 = .ok (.iload_n 3, 1) := by decide +kernel
theorem dX2_isHandlerAllowed_142 : decode cX2_isHandlerAllowed 142 = .ok (.if_icmp .gt 7, 3) := by decide +kernel
theorem dX2_isHandlerAllowed_145 : decode cX2_isHandlerAllowed 145 = .ok (.iconst 1, 1) := by decide +kernel
theorem dX2_isHandlerAllowed_146 : decode cX2_isHandlerAllowed 146 = .ok (.goto 4, 3) := by decide +kernel
theorem dX2_isHandlerAllowed_149 : decode cX2_isHandlerAllowed 149 = .ok (.iconst 0, 1) := by decide +kernel
theorem dX2_isHandlerAllowed_150 : decode cX2_isHandlerAllowed 150 = .ok (.istore 7, 2) := by decide +kernel
theorem dX2_isHandlerAllowed_152 : decode cX2_isHandlerAllowed 152 = .ok (.iload 6, 2) := by decide +kernel
theorem dX2_isHandlerAllowed_154 : decode cX2_isHandlerAllowed 154 = .ok (.ifCond .ne 10, 3) := by decide +kernel
theorem dX2_isHandlerAllowed_157 : decode cX2_isHandlerAllowed 157 = .ok (.iload 7, 2) := by decide +kernel
theorem dX2_isHandlerAllowed_159 : decode cX2_isHandlerAllowed 159 = .ok (.ifCond .ne 5, 3) := by decide +kernel
theorem dX2_isHandlerAllowed_162 : decode cX2_isHandlerAllowed 162 = .ok (.iconst 0, 1) := by decide +kernel
theorem dX2_isHandlerAllowed_163 : decode cX2_isHandlerAllowed 163 = .ok (.ireturn, 1) := by decide +kernel
theorem dX2_isHandlerAllowed_164 : decode cX2_isHandlerAllowed 164 = .ok (.iinc 5 1, 3) := by decide +kernel
theorem dX2_isHandlerAllowed_167 : decode cX2_isHandlerAllowed 167 = .ok (.goto (-91), 3) := by decide +kernel
theorem dX2_isHandlerAllowed_170 : decode cX2_isHandlerAllowed 170 = .ok (.iconst 1, 1) := by decide +kernel
theorem dX2_isHandlerAllowed_171 : decode cX2_isHandlerAllowed 171 = .ok (.ireturn, 1) := by decide +kernel
theorem dX3_init_0 : decode cX3_init 0 = .ok (.aload_n 0, 1) := by decide +kernel
theorem dX3_init_1 : decode cX3_init 1 = .ok (.invokespecial 3, 3) := by decide +kernel
theorem dX3_init_4 : decode cX3_init 4 = .ok (.aload_n 0, 1) := by decide +kernel
theorem dX3_init_5 : decode cX3_init 5 = .ok (.bipush 12, 2) := by decide +kernel
theorem dX3_init_7 : decode cX3_init 7 = .ok (.newarray .int, 2) := by decide +kernel
theorem dX3_init_9 : decode cX3_init 9 = .ok (.putfield 9, 3) := by decide +kernel
theorem dX3_init_12 : decode cX3_init 12 = .ok (.aload_n 0, 1) := by decide +kernel
theorem dX3_init_13 : decode cX3_init 13 = .ok (.bipush 12, 2) := by decide +kernel
theorem dX3_init_15 : decode cX3_init 15 = .ok (.newarray .int, 2) := by decide +kernel
theorem dX3_init_17 : decode cX3_init 17 = .ok (.putfield 15, 3) := by decide +kernel
theorem dX3_init_20 : decode cX3_init 20 = .ok (.return_, 1) := by decide +kernel
theorem dX3_clear_0 : decode cX3_clear 0 = .ok (.iconst 0, 1) := by decide +kernel
theorem dX3_clear_1 : decode cX3_clear 1 = .ok (.istore_n 1, 1) := by decide +kernel
theorem dX3_clear_2 : decode cX3_clear 2 = .ok (.iload_n 1, 1) := by decide +kernel
theorem dX3_clear_3 : decode cX3_clear 3 = .ok (.bipush 12, 2) := by decide +kernel
theorem dX3_clear_5 : decode cX3_clear 5 = .ok (.if_icmp .ge 17, 3) := by decide +kernel
theorem dX3_clear_8 : decode cX3_clear 8 = .ok (.aload_n 0, 1) := by decide +kernel
theorem dX3_clear_9 : decode cX3_clear 9 = .ok (.getfield 9, 3) := by decide +kernel
theorem dX3_clear_12 : decode cX3_clear 12 = .ok (.iload_n 1, 1) := by decide +kernel
theorem dX3_clear_13 : decode cX3_clear 13 = .ok (.bipush (-2), 2) := by decide +kernel
theorem dX3_clear_15 : decode cX3_clear 15 = .ok (.iastore, 1) := by decide +kernel
theorem dX3_clear_16 : decode cX3_clear 16 = .ok (.iinc 1 1, 3) := by decide +kernel
theorem dX3_clear_19 : decode cX3_clear 19 = .ok (.goto (-17), 3) := by decide +kernel
theorem dX3_clear_22 : decode cX3_clear 22 = .ok (.aload_n 0, 1) := by decide +kernel
theorem dX3_clear_23 : decode cX3_clear 23 = .ok (.iconst 0, 1) := by decide +kernel
theorem dX3_clear_24 : decode cX3_clear 24 = .ok (.putfield 18, 3) := by decide +kernel
theorem dX3_clear_27 : decode cX3_clear 27 = .ok (.aload_n 0, 1) := by decide +kernel
theorem dX3_clear_28 : decode cX3_clear 28 = .ok (.iconst 0, 1) := by decide +kernel
theorem dX3_clear_29 : decode cX3_clear 29 = .ok (.putfield 22, 3) := by decide +kernel
theorem dX3_clear_32 : decode cX3_clear 32 = .ok (.return_, 1) := by decide +kernel
theorem dX3_copyFrom_0 : decode cX3_copyFrom 0 = .ok (.aload_n 1, 1) := by decide +kernel
theorem dX3_copyFrom_1 : decode cX3_copyFrom 1 = .ok (.getfield 9, 3) := by decide +kernel
theorem dX3_copyFrom_4 : decode cX3_copyFrom 4 = .ok (.iconst 0, 1) := by decide +kernel
theorem dX3_copyFrom_5 : decode cX3_copyFrom 5 = .ok (.aload_n 0, 1) := by decide +kernel
theorem dX3_copyFrom_6 : decode cX3_copyFrom 6 = .ok (.getfield 9, 3) := by decide +kernel
theorem dX3_copyFrom_9 : decode cX3_copyFrom 9 = .ok (.iconst 0, 1) := by decide +kernel
theorem dX3_copyFrom_10 : decode cX3_copyFrom 10 = .ok (.bipush 12, 2) := by decide +kernel
theorem dX3_copyFrom_12 : decode cX3_copyFrom 12 = .ok (.invokestatic 26, 3) := by decide +kernel
theorem dX3_copyFrom_15 : decode cX3_copyFrom 15 = .ok (.aload_n 1, 1) := by decide +kernel
theorem dX3_copyFrom_16 : decode cX3_copyFrom 16 = .ok (.getfield 15, 3) := by decide +kernel
theorem dX3_copyFrom_19 : decode cX3_copyFrom 19 = .ok (.iconst 0, 1) := by decide +kernel
theorem dX3_copyFrom_20 : decode cX3_copyFrom 20 = .ok (.aload_n 0, 1) := by decide +kernel
theorem dX3_copyFrom_21 : decode cX3_copyFrom 21 = .ok (.getfield 15, 3) := by decide +kernel
theorem dX3_copyFrom_24 : decode cX3_copyFrom 24 = .ok (.iconst 0, 1) := by decide +kernel
theorem dX3_copyFrom_25 : decode cX3_copyFrom 25 = .ok (.bipush 12, 2) := by decide +kernel
theorem dX3_copyFrom_27 : decode cX3_copyFrom 27 = .ok (.invokestatic 26, 3) := by decide +kernel
theorem dX3_copyFrom_30 : decode cX3_copyFrom 30 = .ok (.aload_n 0, 1) := by decide +kernel
theorem dX3_copyFrom_31 : decode cX3_copyFrom 31 = .ok (.aload_n 1, 1) := by decide +kernel
theorem dX3_copyFrom_32 : decode cX3_copyFrom 32 = .ok (.getfield 18, 3) := by decide +kernel
theorem dX3_copyFrom_35 : decode cX3_copyFrom 35 = .ok (.putfield 18, 3) := by decide +kernel
theorem dX3_copyFrom_38 : decode cX3_copyFrom 38 = .ok (.aload_n 0, 1) := by decide +kernel
theorem dX3_copyFrom_39 : decode cX3_copyFrom 39 = .ok (.aload_n 1, 1) := by decide +kernel
theorem dX3_copyFrom_40 : decode cX3_copyFrom 40 = .ok (.getfield 22, 3) := by decide +kernel
theorem dX3_copyFrom_43 : decode cX3_copyFrom 43 = .ok (.putfield 22, 3) := by decide +kernel
theorem dX3_copyFrom_46 : decode cX3_copyFrom 46 = .ok (.return_, 1) := by decide +kernel
theorem dX3_copyCaught_0 : decode cX3_copyCaught 0 = .ok (.aload_n 0, 1) := by decide +kernel
theorem dX3_copyCaught_1 : decode cX3_copyCaught 1 = .ok (.aload_n 1, 1) := by decide +kernel
theorem dX3_copyCaught_2 : decode cX3_copyCaught 2 = .ok (.invokevirtual 32, 3) := by decide +kernel
theorem dX3_copyCaught_5 : decode cX3_copyCaught 5 = .ok (.aload_n 0, 1) := by decide +kernel
theorem dX3_copyCaught_6 : decode cX3_copyCaught 6 = .ok (.getfield 15, 3) := by decide +kernel
theorem dX3_copyCaught_9 : decode cX3_copyCaught 9 = .ok (.iconst 0, 1) := by decide +kernel
theorem dX3_copyCaught_10 : decode cX3_copyCaught 10 = .ok (.bipush 8, 2) := by decide +kernel
theorem dX3_copyCaught_12 : decode cX3_copyCaught 12 = .ok (.iload_n 2, 1) := by decide +kernel
theorem dX3_copyCaught_13 : decode cX3_copyCaught 13 = .ok (.imul, 1) := by decide +kernel
theorem dX3_copyCaught_14 : decode cX3_copyCaught 14 = .ok (.iastore, 1) := by decide +kernel
theorem dX3_copyCaught_15 : decode cX3_copyCaught 15 = .ok (.aload_n 0, 1) := by decide +kernel
theorem dX3_copyCaught_16 : decode cX3_copyCaught 16 = .ok (.iconst 1, 1) := by decide +kernel
theorem dX3_copyCaught_17 : decode cX3_copyCaught 17 = .ok (.putfield 18, 3) := by decide +kernel
theorem dX3_copyCaught_20 : decode cX3_copyCaught 20 = .ok (.return_, 1) := by decide +kernel
theorem dX3_replaceLocals_0 : decode cX3_replaceLocals 0 = .ok (.iconst 0, 1) := by decide +kernel
theorem dX3_replaceLocals_1 : decode cX3_replaceLocals 1 = .ok (.istore_n 3, 1) := by decide +kernel
theorem dX3_replaceLocals_2 : decode cX3_replaceLocals 2 = .ok (.iload_n 3, 1) := by decide +kernel
theorem dX3_replaceLocals_3 : decode cX3_replaceLocals 3 = .ok (.bipush 12, 2) := by decide +kernel
theorem dX3_replaceLocals_5 : decode cX3_replaceLocals 5 = .ok (.if_icmp .ge 26, 3) := by decide +kernel
theorem dX3_replaceLocals_8 : decode cX3_replaceLocals 8 = .ok (.aload_n 0, 1) := by decide +kernel
theorem dX3_replaceLocals_9 : decode cX3_replaceLocals 9 = .ok (.getfield 9, 3) := by decide +kernel
theorem dX3_replaceLocals_12 : decode cX3_replaceLocals 12 = .ok (.iload_n 3, 1) := by decide +kernel
theorem dX3_replaceLocals_13 : decode cX3_replaceLocals 13 = .ok (.iaload, 1) := by decide +kernel
theorem dX3_replaceLocals_14 : decode cX3_replaceLocals 14 = .ok (.iload_n 1, 1) := by decide +kernel
theorem dX3_replaceLocals_15 : decode cX3_replaceLocals 15 = .ok (.if_icmp .ne 10, 3) := by decide +kernel
theorem dX3_replaceLocals_18 : decode cX3_replaceLocals 18 = .ok (.aload_n 0, 1) := by decide +kernel
theorem dX3_replaceLocals_19 : decode cX3_replaceLocals 19 = .ok (.getfield 9, 3) := by decide +kernel
theorem dX3_replaceLocals_22 : decode cX3_replaceLocals 22 = .ok (.iload_n 3, 1) := by decide +kernel
theorem dX3_replaceLocals_23 : decode cX3_replaceLocals 23 = .ok (.iload_n 2, 1) := by decide +kernel
theorem dX3_replaceLocals_24 : decode cX3_replaceLocals 24 = .ok (.iastore, 1) := by decide +kernel
theorem dX3_replaceLocals_25 : decode cX3_replaceLocals 25 = .ok (.iinc 3 1, 3) := by decide +kernel
theorem dX3_replaceLocals_28 : decode cX3_replaceLocals 28 = .ok (.goto (-26), 3) := by decide +kernel
theorem dX3_replaceLocals_31 : decode cX3_replaceLocals 31 = .ok (.return_, 1) := by decide +kernel
theorem dX3_replaceStack_0 : decode cX3_replaceStack 0 = .ok (.iconst 0, 1) := by decide +kernel
theorem dX3_replaceStack_1 : decode cX3_replaceStack 1 = .ok (.istore_n 3, 1) := by decide +kernel
theorem dX3_replaceStack_2 : decode cX3_replaceStack 2 = .ok (.iload_n 3, 1) := by decide +kernel
theorem dX3_replaceStack_3 : decode cX3_replaceStack 3 = .ok (.aload_n 0, 1) := by decide +kernel
theorem dX3_replaceStack_4 : decode cX3_replaceStack 4 = .ok (.getfield 18, 3) := by decide +kernel
theorem dX3_replaceStack_7 : decode cX3_replaceStack 7 = .ok (.if_icmp .ge 26, 3) := by decide +kernel
theorem dX3_replaceStack_10 : decode cX3_replaceStack 10 = .ok (.aload_n 0, 1) := by decide +kernel
theorem dX3_replaceStack_11 : decode cX3_replaceStack 11 = .ok (.getfield 15, 3) := by decide +kernel
theorem dX3_replaceStack_14 : decode cX3_replaceStack 14 = .ok (.iload_n 3, 1) := by decide +kernel
theorem dX3_replaceStack_15 : decode cX3_replaceStack 15 = .ok (.iaload, 1) := by decide +kernel
theorem dX3_replaceStack_16 : decode cX3_replaceStack 16 = .ok (.iload_n 1, 1) := by decide +kernel
theorem dX3_replaceStack_17 : decode cX3_replaceStack 17 = .ok (.if_icmp .ne 10, 3) := by decide +kernel
theorem dX3_replaceStack_20 : decode cX3_replaceStack 20 = .ok (.aload_n 0, 1) := by decide +kernel
theorem dX3_replaceStack_21 : decode cX3_replaceStack 21 = .ok (.getfield 15, 3) := by decide +kernel
theorem dX3_replaceStack_24 : decode cX3_replaceStack 24 = .ok (.iload_n 3, 1) := by decide +kernel
theorem dX3_replaceStack_25 : decode cX3_replaceStack 25 = .ok (.iload_n 2, 1) := by decide +kernel
theorem dX3_replaceStack_26 : decode cX3_replaceStack 26 = .ok (.iastore, 1) := by decide +kernel
theorem dX3_replaceStack_27 : decode cX3_replaceStack 27 = .ok (.iinc 3 1, 3) := by decide +kernel
theorem dX3_replaceStack_30 : decode cX3_replaceStack 30 = .ok (.goto (-28), 3) := by decide +kernel
theorem dX3_replaceStack_33 : decode cX3_replaceStack 33 = .ok (.return_, 1) := by decide +kernel
theorem dX3_hasOnStack_0 : decode cX3_hasOnStack 0 = .ok (.iconst 0, 1) := by decide +kernel
theorem dX3_hasOnStack_1 : decode cX3_hasOnStack 1 = .ok (.istore_n 2, 1) := by decide +kernel
theorem dX3_hasOnStack_2 : decode cX3_hasOnStack 2 = .ok (.iload_n 2, 1) := by decide +kernel
theorem dX3_hasOnStack_3 : decode cX3_hasOnStack 3 = .ok (.aload_n 0, 1) := by decide +kernel
theorem dX3_hasOnStack_4 : decode cX3_hasOnStack 4 = .ok (.getfield 18, 3) := by decide +kernel
theorem dX3_hasOnStack_7 : decode cX3_hasOnStack 7 = .ok (.if_icmp .ge 21, 3) := by decide +kernel
theorem dX3_hasOnStack_10 : decode cX3_hasOnStack 10 = .ok (.aload_n 0, 1) := by decide +kernel
theorem dX3_hasOnStack_11 : decode cX3_hasOnStack 11 = .ok (.getfield 15, 3) := by decide +kernel
theorem dX3_hasOnStack_14 : decode cX3_hasOnStack 14 = .ok (.iload_n 2, 1) := by decide +kernel
theorem dX3_hasOnStack_15 : decode cX3_hasOnStack 15 = .ok (.iaload, 1) := by decide +kernel
theorem dX3_hasOnStack_16 : decode cX3_hasOnStack 16 = .ok (.iload_n 1, 1) := by decide +kernel
theorem dX3_hasOnStack_17 : decode cX3_hasOnStack 17 = .ok (.if_icmp .ne 5, 3) := by decide +kernel
theorem dX3_hasOnStack_20 : decode cX3_hasOnStack 20 = .ok (.iconst 1, 1) := by decide +kernel
theorem dX3_hasOnStack_21 : decode cX3_hasOnStack 21 = .ok (.ireturn, 1) := by decide +kernel
theorem dX3_hasOnStack_22 : decode cX3_hasOnStack 22 = .ok (.iinc 2 1, 3) := by decide +kernel
theorem dX3_hasOnStack_25 : decode cX3_hasOnStack 25 = .ok (.goto (-23), 3) := by decide +kernel
theorem dX3_hasOnStack_28 : decode cX3_hasOnStack 28 = .ok (.iconst 0, 1) := by decide +kernel
theorem dX3_hasOnStack_29 : decode cX3_hasOnStack 29 = .ok (.ireturn, 1) := by decide +kernel
theorem dX4_init_0 : decode cX4_init 0 = .ok (.aload_n 0, 1) := by decide +kernel
theorem dX4_init_1 : decode cX4_init 1 = .ok (.invokespecial 3, 3) := by decide +kernel
theorem dX4_init_4 : decode cX4_init 4 = .ok (.aload_n 0, 1) := by decide +kernel
theorem dX4_init_5 : decode cX4_init 5 = .ok (.bipush 100, 2) := by decide +kernel
theorem dX4_init_7 : decode cX4_init 7 = .ok (.anewarray 9, 3) := by decide +kernel
theorem dX4_init_10 : decode cX4_init 10 = .ok (.putfield 11, 3) := by decide +kernel
theorem dX4_init_13 : decode cX4_init 13 = .ok (.aload_n 0, 1) := by decide +kernel
theorem dX4_init_14 : decode cX4_init 14 = .ok (.bipush 100, 2) := by decide +kernel
theorem dX4_init_16 : decode cX4_init 16 = .ok (.newarray .boolean, 2) := by decide +kernel
theorem dX4_init_18 : decode cX4_init 18 = .ok (.putfield 17, 3) := by decide +kernel
theorem dX4_init_21 : decode cX4_init 21 = .ok (.iconst 0, 1) := by decide +kernel
theorem dX4_init_22 : decode cX4_init 22 = .ok (.istore_n 1, 1) := by decide +kernel
theorem dX4_init_23 : decode cX4_init 23 = .ok (.iload_n 1, 1) := by decide +kernel
theorem dX4_init_24 : decode cX4_init 24 = .ok (.bipush 100, 2) := by decide +kernel
theorem dX4_init_26 : decode cX4_init 26 = .ok (.if_icmp .ge 22, 3) := by decide +kernel
theorem dX4_init_29 : decode cX4_init 29 = .ok (.aload_n 0, 1) := by decide +kernel
theorem dX4_init_30 : decode cX4_init 30 = .ok (.getfield 11, 3) := by decide +kernel
theorem dX4_init_33 : decode cX4_init 33 = .ok (.iload_n 1, 1) := by decide +kernel
theorem dX4_init_34 : decode cX4_init 34 = .ok (.new 9, 3) := by decide +kernel
theorem dX4_init_37 : decode cX4_init 37 = .ok (.dup, 1) := by decide +kernel
theorem dX4_init_38 : decode cX4_init 38 = .ok (.invokespecial 21, 3) := by decide +kernel
theorem dX4_init_41 : decode cX4_init 41 = .ok (.aastore, 1) := by decide +kernel
theorem dX4_init_42 : decode cX4_init 42 = .ok (.iinc 1 1, 3) := by decide +kernel
theorem dX4_init_45 : decode cX4_init 45 = .ok (.goto (-22), 3) := by decide +kernel
theorem dX4_init_48 : decode cX4_init 48 = .ok (.return_, 1) := by decide +kernel
theorem dX4_clear_0 : decode cX4_clear 0 = .ok (.iconst 0, 1) := by decide +kernel
theorem dX4_clear_1 : decode cX4_clear 1 = .ok (.istore_n 1, 1) := by decide +kernel
theorem dX4_clear_2 : decode cX4_clear 2 = .ok (.iload_n 1, 1) := by decide +kernel
theorem dX4_clear_3 : decode cX4_clear 3 = .ok (.bipush 100, 2) := by decide +kernel
theorem dX4_clear_5 : decode cX4_clear 5 = .ok (.if_icmp .ge 16, 3) := by decide +kernel
theorem dX4_clear_8 : decode cX4_clear 8 = .ok (.aload_n 0, 1) := by decide +kernel
theorem dX4_clear_9 : decode cX4_clear 9 = .ok (.getfield 17, 3) := by decide +kernel
theorem dX4_clear_12 : decode cX4_clear 12 = .ok (.iload_n 1, 1) := by decide +kernel
theorem dX4_clear_13 : decode cX4_clear 13 = .ok (.iconst 0, 1) := by decide +kernel
theorem dX4_clear_14 : decode cX4_clear 14 = .ok (.bastore, 1) := by decide +kernel
theorem dX4_clear_15 : decode cX4_clear 15 = .ok (.iinc 1 1, 3) := by decide +kernel
theorem dX4_clear_18 : decode cX4_clear 18 = .ok (.goto (-16), 3) := by decide +kernel
theorem dX4_clear_21 : decode cX4_clear 21 = .ok (.aload_n 0, 1) := by decide +kernel
theorem dX4_clear_22 : decode cX4_clear 22 = .ok (.iconst 0, 1) := by decide +kernel
theorem dX4_clear_23 : decode cX4_clear 23 = .ok (.putfield 22, 3) := by decide +kernel
theorem dX4_clear_26 : decode cX4_clear 26 = .ok (.return_, 1) := by decide +kernel
theorem dX4_contains_0 : decode cX4_contains 0 = .ok (.aload_n 0, 1) := by decide +kernel
theorem dX4_contains_1 : decode cX4_contains 1 = .ok (.getfield 17, 3) := by decide +kernel
theorem dX4_contains_4 : decode cX4_contains 4 = .ok (.iload_n 1, 1) := by decide +kernel
theorem dX4_contains_5 : decode cX4_contains 5 = .ok (.baload, 1) := by decide +kernel
theorem dX4_contains_6 : decode cX4_contains 6 = .ok (.ireturn, 1) := by decide +kernel
theorem dX4_put_0 : decode cX4_put 0 = .ok (.aload_n 0, 1) := by decide +kernel
theorem dX4_put_1 : decode cX4_put 1 = .ok (.getfield 17, 3) := by decide +kernel
theorem dX4_put_4 : decode cX4_put 4 = .ok (.iload_n 1, 1) := by decide +kernel
theorem dX4_put_5 : decode cX4_put 5 = .ok (.baload, 1) := by decide +kernel
theorem dX4_put_6 : decode cX4_put 6 = .ok (.ifCond .ne 20, 3) := by decide +kernel
theorem dX4_put_9 : decode cX4_put 9 = .ok (.aload_n 0, 1) := by decide +kernel
theorem dX4_put_10 : decode cX4_put 10 = .ok (.getfield 17, 3) := by decide +kernel
theorem dX4_put_13 : decode cX4_put 13 = .ok (.iload_n 1, 1) := by decide +kernel
theorem dX4_put_14 : decode cX4_put 14 = .ok (.iconst 1, 1) := by decide +kernel
theorem dX4_put_15 : decode cX4_put 15 = .ok (.bastore, 1) := by decide +kernel
theorem dX4_put_16 : decode cX4_put 16 = .ok (.aload_n 0, 1) := by decide +kernel
theorem dX4_put_17 : decode cX4_put 17 = .ok (.dup, 1) := by decide +kernel
theorem dX4_put_18 : decode cX4_put 18 = .ok (.getfield 22, 3) := by decide +kernel
theorem dX4_put_21 : decode cX4_put 21 = .ok (.iconst 1, 1) := by decide +kernel
theorem dX4_put_22 : decode cX4_put 22 = .ok (.iadd, 1) := by decide +kernel
theorem dX4_put_23 : decode cX4_put 23 = .ok (.putfield 22, 3) := by decide +kernel
theorem dX4_put_26 : decode cX4_put 26 = .ok (.aload_n 0, 1) := by decide +kernel
theorem dX4_put_27 : decode cX4_put 27 = .ok (.getfield 11, 3) := by decide +kernel
theorem dX4_put_30 : decode cX4_put 30 = .ok (.iload_n 1, 1) := by decide +kernel
theorem dX4_put_31 : decode cX4_put 31 = .ok (.aaload, 1) := by decide +kernel
theorem dX4_put_32 : decode cX4_put 32 = .ok (.aload_n 2, 1) := by decide +kernel
theorem dX4_put_33 : decode cX4_put 33 = .ok (.invokevirtual 26, 3) := by decide +kernel
theorem dX4_put_36 : decode cX4_put 36 = .ok (.return_, 1) := by decide +kernel
theorem dX5_init_0 : decode cX5_init 0 = .ok (.aload_n 0, 1) := by decide +kernel
theorem dX5_init_1 : decode cX5_init 1 = .ok (.aload_n 1, 1) := by decide +kernel
theorem dX5_init_2 : decode cX5_init 2 = .ok (.aload_n 2, 1) := by decide +kernel
theorem dX5_init_3 : decode cX5_init 3 = .ok (.aload_n 3, 1) := by decide +kernel
theorem dX5_init_4 : decode cX5_init 4 = .ok (.invokespecial 3, 3) := by decide +kernel
theorem dX5_init_7 : decode cX5_init 7 = .ok (.aload_n 0, 1) := by decide +kernel
theorem dX5_init_8 : decode cX5_init 8 = .ok (.bipush 100, 2) := by decide +kernel
theorem dX5_init_10 : decode cX5_init 10 = .ok (.newarray .boolean, 2) := by decide +kernel
theorem dX5_init_12 : decode cX5_init 12 = .ok (.putfield 9, 3) := by decide +kernel
theorem dX5_init_15 : decode cX5_init 15 = .ok (.aload_n 0, 1) := by decide +kernel
theorem dX5_init_16 : decode cX5_init 16 = .ok (.aload 4, 2) := by decide +kernel
theorem dX5_init_18 : decode cX5_init 18 = .ok (.putfield 15, 3) := by decide +kernel
theorem dX5_init_21 : decode cX5_init 21 = .ok (.return_, 1) := by decide +kernel
theorem dX5_run_0 : decode cX5_run 0 = .ok (.aload_n 0, 1) := by decide +kernel
theorem dX5_run_1 : decode cX5_run 1 = .ok (.getfield 15, 3) := by decide +kernel
theorem dX5_run_4 : decode cX5_run 4 = .ok (.invokevirtual 19, 3) := by decide +kernel
theorem dX5_run_7 : decode cX5_run 7 = .ok (.aload_n 0, 1) := by decide +kernel
theorem dX5_run_8 : decode cX5_run 8 = .ok (.invokevirtual 25, 3) := by decide +kernel
theorem dX5_run_11 : decode cX5_run 11 = .ok (.istore_n 1, 1) := by decide +kernel
theorem dX5_run_12 : decode cX5_run 12 = .ok (.iload_n 1, 1) := by decide +kernel
theorem dX5_run_13 : decode cX5_run 13 = .ok (.ifCond .ne 7, 3) := by decide +kernel
theorem dX5_run_16 : decode cX5_run 16 = .ok (.aload_n 0, 1) := by decide +kernel
theorem dX5_run_17 : decode cX5_run 17 = .ok (.invokevirtual 29, 3) := by decide +kernel
theorem dX5_run_20 : decode cX5_run 20 = .ok (.iconst 0, 1) := by decide +kernel
theorem dX5_run_21 : decode cX5_run 21 = .ok (.istore_n 2, 1) := by decide +kernel
theorem dX5_run_22 : decode cX5_run 22 = .ok (.iload_n 2, 1) := by decide +kernel
theorem dX5_run_23 : decode cX5_run 23 = .ok (.ldc 32, 2) := by decide +kernel
theorem dX5_run_25 : decode cX5_run 25 = .ok (.if_icmp .ge 46, 3) := by decide +kernel
theorem dX5_run_28 : decode cX5_run 28 = .ok (.iload_n 1, 1) := by decide +kernel
theorem dX5_run_29 : decode cX5_run 29 = .ok (.ifCond .ne 42, 3) := by decide +kernel
theorem dX5_run_32 : decode cX5_run 32 = .ok (.aload_n 0, 1) := by decide +kernel
theorem dX5_run_33 : decode cX5_run 33 = .ok (.invokevirtual 33, 3) := by decide +kernel
theorem dX5_run_36 : decode cX5_run 36 = .ok (.istore_n 3, 1) := by decide +kernel
theorem dX5_run_37 : decode cX5_run 37 = .ok (.iload_n 3, 1) := by decide +kernel
theorem dX5_run_38 : decode cX5_run 38 = .ok (.ifCond .ge 5, 3) := by decide +kernel
theorem dX5_run_41 : decode cX5_run 41 = .ok (.iconst 0, 1) := by decide +kernel
theorem dX5_run_42 : decode cX5_run 42 = .ok (.ireturn, 1) := by decide +kernel
theorem dX5_run_43 : decode cX5_run 43 = .ok (.aload_n 0, 1) := by decide +kernel
theorem dX5_run_44 : decode cX5_run 44 = .ok (.getfield 36, 3) := by decide +kernel
theorem dX5_run_47 : decode cX5_run 47 = .ok (.aload_n 0, 1) := by decide +kernel
theorem dX5_run_48 : decode cX5_run 48 = .ok (.getfield 15, 3) := by decide +kernel
theorem dX5_run_51 : decode cX5_run 51 = .ok (.getfield 40, 3) := by decide +kernel
theorem dX5_run_54 : decode cX5_run 54 = .ok (.iload_n 3, 1) := by decide +kernel
theorem dX5_run_55 : decode cX5_run 55 = .ok (.aaload, 1) := by decide +kernel
theorem dX5_run_56 : decode cX5_run 56 = .ok (.invokevirtual 44, 3) := by decide +kernel
theorem dX5_run_59 : decode cX5_run 59 = .ok (.aload_n 0, 1) := by decide +kernel
theorem dX5_run_60 : decode cX5_run 60 = .ok (.iload_n 3, 1) := by decide +kernel
theorem dX5_run_61 : decode cX5_run 61 = .ok (.invokevirtual 50, 3) := by decide +kernel
theorem dX5_run_64 : decode cX5_run 64 = .ok (.istore_n 1, 1) := by decide +kernel
theorem dX5_run_65 : decode cX5_run 65 = .ok (.iinc 2 1, 3) := by decide +kernel
theorem dX5_run_68 : decode cX5_run 68 = .ok (.goto (-46), 3) := by decide +kernel
theorem dX5_run_71 : decode cX5_run 71 = .ok (.aload_n 0, 1) := by decide +kernel
theorem dX5_run_72 : decode cX5_run 72 = .ok (.getfield 15, 3) := by decide +kernel
theorem dX5_run_75 : decode cX5_run 75 = .ok (.invokevirtual 19, 3) := by decide +kernel
theorem dX5_run_78 : decode cX5_run 78 = .ok (.iload_n 1, 1) := by decide +kernel
theorem dX5_run_79 : decode cX5_run 79 = .ok (.ireturn, 1) := by decide +kernel
theorem dX5_setFirstFrame_0 : decode cX5_setFirstFrame 0 = .ok (.iconst 0, 1) := by decide +kernel
theorem dX5_setFirstFrame_1 : decode cX5_setFirstFrame 1 = .ok (.istore_n 1, 1) := by decide +kernel
theorem dX5_setFirstFrame_2 : decode cX5_setFirstFrame 2 = .ok (.iload_n 1, 1) := by decide +kernel
theorem dX5_setFirstFrame_3 : decode cX5_setFirstFrame 3 = .ok (.bipush 100, 2) := by decide +kernel
theorem dX5_setFirstFrame_5 : decode cX5_setFirstFrame 5 = .ok (.if_icmp .ge 16, 3) := by decide +kernel
theorem dX5_setFirstFrame_8 : decode cX5_setFirstFrame 8 = .ok (.aload_n 0, 1) := by decide +kernel
theorem dX5_setFirstFrame_9 : decode cX5_setFirstFrame 9 = .ok (.getfield 9, 3) := by decide +kernel
theorem dX5_setFirstFrame_12 : decode cX5_setFirstFrame 12 = .ok (.iload_n 1, 1) := by decide +kernel
theorem dX5_setFirstFrame_13 : decode cX5_setFirstFrame 13 = .ok (.iconst 0, 1) := by decide +kernel
theorem dX5_setFirstFrame_14 : decode cX5_setFirstFrame 14 = .ok (.bastore, 1) := by decide +kernel
theorem dX5_setFirstFrame_15 : decode cX5_setFirstFrame 15 = .ok (.iinc 1 1, 3) := by decide +kernel
theorem dX5_setFirstFrame_18 : decode cX5_setFirstFrame 18 = .ok (.goto (-16), 3) := by decide +kernel
theorem dX5_setFirstFrame_21 : decode cX5_setFirstFrame 21 = .ok (.aload_n 0, 1) := by decide +kernel
theorem dX5_setFirstFrame_22 : decode cX5_setFirstFrame 22 = .ok (.aload_n 0, 1) := by decide +kernel
theorem dX5_setFirstFrame_23 : decode cX5_setFirstFrame 23 = .ok (.getfield 36, 3) := by decide +kernel
theorem dX5_setFirstFrame_26 : decode cX5_setFirstFrame 26 = .ok (.invokevirtual 54, 3) := by decide +kernel
theorem dX5_setFirstFrame_29 : decode cX5_setFirstFrame 29 = .ok (.aload_n 0, 1) := by decide +kernel
theorem dX5_setFirstFrame_30 : decode cX5_setFirstFrame 30 = .ok (.getfield 15, 3) := by decide +kernel
theorem dX5_setFirstFrame_33 : decode cX5_setFirstFrame 33 = .ok (.iconst 0, 1) := by decide +kernel
theorem dX5_setFirstFrame_34 : decode cX5_setFirstFrame 34 = .ok (.aload_n 0, 1) := by decide +kernel
theorem dX5_setFirstFrame_35 : decode cX5_setFirstFrame 35 = .ok (.getfield 36, 3) := by decide +kernel
theorem dX5_setFirstFrame_38 : decode cX5_setFirstFrame 38 = .ok (.invokevirtual 57, 3) := by decide +kernel
theorem dX5_setFirstFrame_41 : decode cX5_setFirstFrame 41 = .ok (.aload_n 0, 1) := by decide +kernel
theorem dX5_setFirstFrame_42 : decode cX5_setFirstFrame 42 = .ok (.getfield 9, 3) := by decide +kernel
theorem dX5_setFirstFrame_45 : decode cX5_setFirstFrame 45 = .ok (.iconst 0, 1) := by decide +kernel
theorem dX5_setFirstFrame_46 : decode cX5_setFirstFrame 46 = .ok (.iconst 1, 1) := by decide +kernel
theorem dX5_setFirstFrame_47 : decode cX5_setFirstFrame 47 = .ok (.bastore, 1) := by decide +kernel
theorem dX5_setFirstFrame_48 : decode cX5_setFirstFrame 48 = .ok (.return_, 1) := by decide +kernel
theorem dX5_takePending_0 : decode cX5_takePending 0 = .ok (.iconst 0, 1) := by decide +kernel
theorem dX5_takePending_1 : decode cX5_takePending 1 = .ok (.istore_n 1, 1) := by decide +kernel
theorem dX5_takePending_2 : decode cX5_takePending 2 = .ok (.iload_n 1, 1) := by decide +kernel
theorem dX5_takePending_3 : decode cX5_takePending 3 = .ok (.aload_n 0, 1) := by decide +kernel
theorem dX5_takePending_4 : decode cX5_takePending 4 = .ok (.getfield 61, 3) := by decide +kernel
theorem dX5_takePending_7 : decode cX5_takePending 7 = .ok (.getfield 65, 3) := by decide +kernel
theorem dX5_takePending_10 : decode cX5_takePending 10 = .ok (.if_icmp .ge 27, 3) := by decide +kernel
theorem dX5_takePending_13 : decode cX5_takePending 13 = .ok (.aload_n 0, 1) := by decide +kernel
theorem dX5_takePending_14 : decode cX5_takePending 14 = .ok (.getfield 9, 3) := by decide +kernel
theorem dX5_takePending_17 : decode cX5_takePending 17 = .ok (.iload_n 1, 1) := by decide +kernel
theorem dX5_takePending_18 : decode cX5_takePending 18 = .ok (.baload, 1) := by decide +kernel
theorem dX5_takePending_19 : decode cX5_takePending 19 = .ok (.ifCond .eq 12, 3) := by decide +kernel
theorem dX5_takePending_22 : decode cX5_takePending 22 = .ok (.aload_n 0, 1) := by decide +kernel
theorem dX5_takePending_23 : decode cX5_takePending 23 = .ok (.getfield 9, 3) := by decide +kernel
theorem dX5_takePending_26 : decode cX5_takePending 26 = .ok (.iload_n 1, 1) := by decide +kernel
theorem dX5_takePending_27 : decode cX5_takePending 27 = .ok (.iconst 0, 1) := by decide +kernel
theorem dX5_takePending_28 : decode cX5_takePending 28 = .ok (.bastore, 1) := by decide +kernel
theorem dX5_takePending_29 : decode cX5_takePending 29 = .ok (.iload_n 1, 1) := by decide +kernel
theorem dX5_takePending_30 : decode cX5_takePending 30 = .ok (.ireturn, 1) := by decide +kernel
theorem dX5_takePending_31 : decode cX5_takePending 31 = .ok (.iinc 1 1, 3) := by decide +kernel
theorem dX5_takePending_34 : decode cX5_takePending 34 = .ok (.goto (-32), 3) := by decide +kernel
theorem dX5_takePending_37 : decode cX5_takePending 37 = .ok (.iconst (-1), 1) := by decide +kernel
theorem dX5_takePending_38 : decode cX5_takePending 38 = .ok (.ireturn, 1) := by decide +kernel
theorem dX5_flow_0 : decode cX5_flow 0 = .ok (.aload_n 0, 1) := by decide +kernel
theorem dX5_flow_1 : decode cX5_flow 1 = .ok (.getfield 15, 3) := by decide +kernel
theorem dX5_flow_4 : decode cX5_flow 4 = .ok (.iload_n 1, 1) := by decide +kernel
theorem dX5_flow_5 : decode cX5_flow 5 = .ok (.invokevirtual 71, 3) := by decide +kernel
theorem dX5_flow_8 : decode cX5_flow 8 = .ok (.ifCond .ne 21, 3) := by decide +kernel
theorem dX5_flow_11 : decode cX5_flow 11 = .ok (.aload_n 0, 1) := by decide +kernel
theorem dX5_flow_12 : decode cX5_flow 12 = .ok (.getfield 15, 3) := by decide +kernel
theorem dX5_flow_15 : decode cX5_flow 15 = .ok (.iload_n 1, 1) := by decide +kernel
theorem dX5_flow_16 : decode cX5_flow 16 = .ok (.aload_n 2, 1) := by decide +kernel
theorem dX5_flow_17 : decode cX5_flow 17 = .ok (.invokevirtual 57, 3) := by decide +kernel
theorem dX5_flow_20 : decode cX5_flow 20 = .ok (.aload_n 0, 1) := by decide +kernel
theorem dX5_flow_21 : decode cX5_flow 21 = .ok (.getfield 9, 3) := by decide +kernel
theorem dX5_flow_24 : decode cX5_flow 24 = .ok (.iload_n 1, 1) := by decide +kernel
theorem dX5_flow_25 : decode cX5_flow 25 = .ok (.iconst 1, 1) := by decide +kernel
theorem dX5_flow_26 : decode cX5_flow 26 = .ok (.bastore, 1) := by decide +kernel
theorem dX5_flow_27 : decode cX5_flow 27 = .ok (.iconst 0, 1) := by decide +kernel
theorem dX5_flow_28 : decode cX5_flow 28 = .ok (.ireturn, 1) := by decide +kernel
theorem dX5_flow_29 : decode cX5_flow 29 = .ok (.aload_n 0, 1) := by decide +kernel
theorem dX5_flow_30 : decode cX5_flow 30 = .ok (.getfield 15, 3) := by decide +kernel
theorem dX5_flow_33 : decode cX5_flow 33 = .ok (.getfield 40, 3) := by decide +kernel
theorem dX5_flow_36 : decode cX5_flow 36 = .ok (.iload_n 1, 1) := by decide +kernel
theorem dX5_flow_37 : decode cX5_flow 37 = .ok (.aaload, 1) := by decide +kernel
theorem dX5_flow_38 : decode cX5_flow 38 = .ok (.astore 4, 2) := by decide +kernel
theorem dX5_flow_40 : decode cX5_flow 40 = .ok (.aload 4, 2) := by decide +kernel
theorem dX5_flow_42 : decode cX5_flow 42 = .ok (.getfield 75, 3) := by decide +kernel
theorem dX5_flow_45 : decode cX5_flow 45 = .ok (.aload_n 2, 1) := by decide +kernel
theorem dX5_flow_46 : decode cX5_flow 46 = .ok (.getfield 75, 3) := by decide +kernel
theorem dX5_flow_49 : decode cX5_flow 49 = .ok (.if_icmp .eq 6, 3) := by decide +kernel
theorem dX5_flow_52 : decode cX5_flow 52 = .ok (.bipush 8, 2) := by decide +kernel
theorem dX5_flow_54 : decode cX5_flow 54 = .ok (.ireturn, 1) := by decide +kernel
theorem dX5_flow_55 : decode cX5_flow 55 = .ok (.aload_n 2, 1) := by decide +kernel
theorem dX5_flow_56 : decode cX5_flow 56 = .ok (.getfield 78, 3) := by decide +kernel
theorem dX5_flow_59 : decode cX5_flow 59 = .ok (.ifCond .eq 15, 3) := by decide +kernel
theorem dX5_flow_62 : decode cX5_flow 62 = .ok (.aload 4, 2) := by decide +kernel
theorem dX5_flow_64 : decode cX5_flow 64 = .ok (.getfield 78, 3) := by decide +kernel
theorem dX5_flow_67 : decode cX5_flow 67 = .ok (.ifCond .ne 7, 3) := by decide +kernel
theorem dX5_flow_70 : decode cX5_flow 70 = .ok (.iconst 1, 1) := by decide +kernel
theorem dX5_flow_71 : decode cX5_flow 71 = .ok (.goto 4, 3) := by decide +kernel
theorem dX5_flow_74 : decode cX5_flow 74 = .ok (.iconst 0, 1) := by decide +kernel
theorem dX5_flow_75 : decode cX5_flow 75 = .ok (.istore 5, 2) := by decide +kernel
theorem dX5_flow_77 : decode cX5_flow 77 = .ok (.aload 4, 2) := by decide +kernel
theorem dX5_flow_79 : decode cX5_flow 79 = .ok (.aload 4, 2) := by decide +kernel
theorem dX5_flow_81 : decode cX5_flow 81 = .ok (.getfield 78, 3) := by decide +kernel
theorem dX5_flow_84 : decode cX5_flow 84 = .ok (.ifCond .ne 10, 3) := by decide +kernel
theorem dX5_flow_87 : decode cX5_flow 87 = .ok (.aload_n 2, 1) := by decide +kernel
theorem dX5_flow_88 : decode cX5_flow 88 = .ok (.getfield 78, 3) := by decide +kernel
theorem dX5_flow_91 : decode cX5_flow 91 = .ok (.ifCond .eq 7, 3) := by decide +kernel
theorem dX5_flow_94 : decode cX5_flow 94 = .ok (.iconst 1, 1) := by decide +kernel
theorem dX5_flow_95 : decode cX5_flow 95 = .ok (.goto 4, 3) := by decide +kernel
theorem dX5_flow_98 : decode cX5_flow 98 = .ok (.iconst 0, 1) := by decide +kernel
theorem dX5_flow_99 : decode cX5_flow 99 = .ok (.putfield 78, 3) := by decide +kernel
theorem dX5_flow_102 : decode cX5_flow 102 = .ok (.iconst 0, 1) := by decide +kernel
theorem dX5_flow_103 : decode cX5_flow 103 = .ok (.istore 6, 2) := by decide +kernel
theorem dX5_flow_105 : decode cX5_flow 105 = .ok (.iload 6, 2) := by decide +kernel
theorem dX5_flow_107 : decode cX5_flow 107 = .ok (.aload 4, 2) := by decide +kernel
theorem dX5_flow_109 : decode cX5_flow 109 = .ok (.getfield 75, 3) := by decide +kernel
theorem dX5_flow_112 : decode cX5_flow 112 = .ok (.if_icmp .ge 96, 3) := by decide +kernel
theorem dX5_flow_115 : decode cX5_flow 115 = .ok (.aload_n 0, 1) := by decide +kernel
theorem dX5_flow_116 : decode cX5_flow 116 = .ok (.getfield 82, 3) := by decide +kernel
theorem dX5_flow_119 : decode cX5_flow 119 = .ok (.aload 4, 2) := by decide +kernel
theorem dX5_flow_121 : decode cX5_flow 121 = .ok (.getfield 86, 3) := by decide +kernel
theorem dX5_flow_124 : decode cX5_flow 124 = .ok (.iload 6, 2) := by decide +kernel
theorem dX5_flow_126 : decode cX5_flow 126 = .ok (.iaload, 1) := by decide +kernel
theorem dX5_flow_127 : decode cX5_flow 127 = .ok (.aload_n 2, 1) := by decide +kernel
theorem dX5_flow_128 : decode cX5_flow 128 = .ok (.getfield 86, 3) := by decide +kernel
theorem dX5_flow_131 : decode cX5_flow 131 = .ok (.iload 6, 2) := by decide +kernel
theorem dX5_flow_133 : decode cX5_flow 133 = .ok (.iaload, 1) := by decide +kernel
theorem dX5_flow_134 : decode cX5_flow 134 = .ok (.invokevirtual 90, 3) := by decide +kernel
theorem dX5_flow_137 : decode cX5_flow 137 = .ok (.istore 7, 2) := by decide +kernel
theorem dX5_flow_139 : decode cX5_flow 139 = .ok (.iload 7, 2) := by decide +kernel
theorem dX5_flow_141 : decode cX5_flow 141 = .ok (.bipush (-2), 2) := by decide +kernel
theorem dX5_flow_143 : decode cX5_flow 143 = .ok (.if_icmp .ne 24, 3) := by decide +kernel
theorem dX5_flow_146 : decode cX5_flow 146 = .ok (.aload 4, 2) := by decide +kernel
theorem dX5_flow_148 : decode cX5_flow 148 = .ok (.getfield 86, 3) := by decide +kernel
theorem dX5_flow_151 : decode cX5_flow 151 = .ok (.iload 6, 2) := by decide +kernel
theorem dX5_flow_153 : decode cX5_flow 153 = .ok (.iaload, 1) := by decide +kernel
theorem dX5_flow_154 : decode cX5_flow 154 = .ok (.aload_n 2, 1) := by decide +kernel
theorem dX5_flow_155 : decode cX5_flow 155 = .ok (.getfield 86, 3) := by decide +kernel
theorem dX5_flow_158 : decode cX5_flow 158 = .ok (.iload 6, 2) := by decide +kernel
theorem dX5_flow_160 : decode cX5_flow 160 = .ok (.iaload, 1) := by decide +kernel
theorem dX5_flow_161 : decode cX5_flow 161 = .ok (.if_icmp .eq 6, 3) := by decide +kernel
theorem dX5_flow_164 : decode cX5_flow 164 = .ok (.bipush 8, 2) := by decide +kernel
theorem dX5_flow_166 : decode cX5_flow 166 = .ok (.ireturn, 1) := by decide +kernel
theorem dX5_flow_167 : decode cX5_flow 167 = .ok (.iload 5, 2) := by decide +kernel
theorem dX5_flow_169 : decode cX5_flow 169 = .ok (.ifCond .ne 16, 3) := by decide +kernel
theorem dX5_flow_172 : decode cX5_flow 172 = .ok (.iload 7, 2) := by decide +kernel
theorem dX5_flow_174 : decode cX5_flow 174 = .ok (.aload 4, 2) := by decide +kernel
theorem dX5_flow_176 : decode cX5_flow 176 = .ok (.getfield 86, 3) := by decide +kernel
theorem dX5_flow_179 : decode cX5_flow 179 = .ok (.iload 6, 2) := by decide +kernel
theorem dX5_flow_181 : decode cX5_flow 181 = .ok (.iaload, 1) := by decide +kernel
theorem dX5_flow_182 : decode cX5_flow 182 = .ok (.if_icmp .eq 7, 3) := by decide +kernel
theorem dX5_flow_185 : decode cX5_flow 185 = .ok (.iconst 1, 1) := by decide +kernel
theorem dX5_flow_186 : decode cX5_flow 186 = .ok (.goto 4, 3) := by decide +kernel
theorem dX5_flow_189 : decode cX5_flow 189 = .ok (.iconst 0, 1) := by decide +kernel
theorem dX5_flow_190 : decode cX5_flow 190 = .ok (.istore 5, 2) := by decide +kernel
theorem dX5_flow_192 : decode cX5_flow 192 = .ok (.aload 4, 2) := by decide +kernel
theorem dX5_flow_194 : decode cX5_flow 194 = .ok (.getfield 86, 3) := by decide +kernel
theorem dX5_flow_197 : decode cX5_flow 197 = .ok (.iload 6, 2) := by decide +kernel
theorem dX5_flow_199 : decode cX5_flow 199 = .ok (.iload 7, 2) := by decide +kernel
theorem dX5_flow_201 : decode cX5_flow 201 = .ok (.iastore, 1) := by decide +kernel
theorem dX5_flow_202 : decode cX5_flow 202 = .ok (.iinc 6 1, 3) := by decide +kernel
theorem dX5_flow_205 : decode cX5_flow 205 = .ok (.goto (-100), 3) := by decide +kernel
theorem dX5_flow_208 : decode cX5_flow 208 = .ok (.iconst 0, 1) := by decide +kernel
theorem dX5_flow_209 : decode cX5_flow 209 = .ok (.istore 6, 2) := by decide +kernel
theorem dX5_flow_211 : decode cX5_flow 211 = .ok (.iload 6, 2) := by decide +kernel
theorem dX5_flow_213 : decode cX5_flow 213 = .ok (.bipush 12, 2) := by decide +kernel
theorem dX5_flow_215 : decode cX5_flow 215 = .ok (.if_icmp .ge 68, 3) := by decide +kernel
theorem dX5_flow_218 : decode cX5_flow 218 = .ok (.aload_n 0, 1) := by decide +kernel
theorem dX5_flow_219 : decode cX5_flow 219 = .ok (.getfield 82, 3) := by decide +kernel
theorem dX5_flow_222 : decode cX5_flow 222 = .ok (.aload 4, 2) := by decide +kernel
theorem dX5_flow_224 : decode cX5_flow 224 = .ok (.getfield 96, 3) := by decide +kernel
theorem dX5_flow_227 : decode cX5_flow 227 = .ok (.iload 6, 2) := by decide +kernel
theorem dX5_flow_229 : decode cX5_flow 229 = .ok (.iaload, 1) := by decide +kernel
theorem dX5_flow_230 : decode cX5_flow 230 = .ok (.aload_n 2, 1) := by decide +kernel
theorem dX5_flow_231 : decode cX5_flow 231 = .ok (.getfield 96, 3) := by decide +kernel
theorem dX5_flow_234 : decode cX5_flow 234 = .ok (.iload 6, 2) := by decide +kernel
theorem dX5_flow_236 : decode cX5_flow 236 = .ok (.iaload, 1) := by decide +kernel
theorem dX5_flow_237 : decode cX5_flow 237 = .ok (.invokevirtual 90, 3) := by decide +kernel
theorem dX5_flow_240 : decode cX5_flow 240 = .ok (.istore 7, 2) := by decide +kernel
theorem dX5_flow_242 : decode cX5_flow 242 = .ok (.iload 5, 2) := by decide +kernel
theorem dX5_flow_244 : decode cX5_flow 244 = .ok (.ifCond .ne 16, 3) := by decide +kernel
theorem dX5_flow_247 : decode cX5_flow 247 = .ok (.iload 7, 2) := by decide +kernel
theorem dX5_flow_249 : decode cX5_flow 249 = .ok (.aload 4, 2) := by decide +kernel
theorem dX5_flow_251 : decode cX5_flow 251 = .ok (.getfield 96, 3) := by decide +kernel
theorem dX5_flow_254 : decode cX5_flow 254 = .ok (.iload 6, 2) := by decide +kernel
theorem dX5_flow_256 : decode cX5_flow 256 = .ok (.iaload, 1) := by decide +kernel
theorem dX5_flow_257 : decode cX5_flow 257 = .ok (.if_icmp .eq 7, 3) := by decide +kernel
theorem dX5_flow_260 : decode cX5_flow 260 = .ok (.iconst 1, 1) := by decide +kernel
theorem dX5_flow_261 : decode cX5_flow 261 = .ok (.goto 4, 3) := by decide +kernel
theorem dX5_flow_264 : decode cX5_flow 264 = .ok (.iconst 0, 1) := by decide +kernel
theorem dX5_flow_265 : decode cX5_flow 265 = .ok (.istore 5, 2) := by decide +kernel
theorem dX5_flow_267 : decode cX5_flow 267 = .ok (.aload 4, 2) := by decide +kernel
theorem dX5_flow_269 : decode cX5_flow 269 = .ok (.getfield 96, 3) := by decide +kernel
theorem dX5_flow_272 : decode cX5_flow 272 = .ok (.iload 6, 2) := by decide +kernel
theorem dX5_flow_274 : decode cX5_flow 274 = .ok (.iload 7, 2) := by decide +kernel
theorem dX5_flow_276 : decode cX5_flow 276 = .ok (.iastore, 1) := by decide +kernel
theorem dX5_flow_277 : decode cX5_flow 277 = .ok (.iinc 6 1, 3) := by decide +kernel
theorem dX5_flow_280 : decode cX5_flow 280 = .ok (.goto (-69), 3) := by decide +kernel
theorem dX5_flow_283 : decode cX5_flow 283 = .ok (.aload_n 0, 1) := by decide +kernel
theorem dX5_flow_284 : decode cX5_flow 284 = .ok (.getfield 9, 3) := by decide +kernel
theorem dX5_flow_287 : decode cX5_flow 287 = .ok (.iload_n 1, 1) := by decide +kernel
theorem dX5_flow_288 : decode cX5_flow 288 = .ok (.aload_n 0, 1) := by decide +kernel
theorem dX5_flow_289 : decode cX5_flow 289 = .ok (.getfield 9, 3) := by decide +kernel
theorem dX5_flow_292 : decode cX5_flow 292 = .ok (.iload_n 1, 1) := by decide +kernel
theorem dX5_flow_293 : decode cX5_flow 293 = .ok (.baload, 1) := by decide +kernel
theorem dX5_flow_294 : decode cX5_flow 294 = .ok (.ifCond .ne 8, 3) := by decide +kernel
theorem dX5_flow_297 : decode cX5_flow 297 = .ok (.iload 5, 2) := by decide +kernel
theorem dX5_flow_299 : decode cX5_flow 299 = .ok (.ifCond .eq 7, 3) := by decide +kernel
theorem dX5_flow_302 : decode cX5_flow 302 = .ok (.iconst 1, 1) := by decide +kernel
theorem dX5_flow_303 : decode cX5_flow 303 = .ok (.goto 4, 3) := by decide +kernel
theorem dX5_flow_306 : decode cX5_flow 306 = .ok (.iconst 0, 1) := by decide +kernel
theorem dX5_flow_307 : decode cX5_flow 307 = .ok (.bastore, 1) := by decide +kernel
theorem dX5_flow_308 : decode cX5_flow 308 = .ok (.iconst 0, 1) := by decide +kernel
theorem dX5_flow_309 : decode cX5_flow 309 = .ok (.ireturn, 1) := by decide +kernel
theorem dX6_init_0 : decode cX6_init 0 = .ok (.aload_n 0, 1) := by decide +kernel
theorem dX6_init_1 : decode cX6_init 1 = .ok (.aload_n 1, 1) := by decide +kernel
theorem dX6_init_2 : decode cX6_init 2 = .ok (.aload_n 2, 1) := by decide +kernel
theorem dX6_init_3 : decode cX6_init 3 = .ok (.aload_n 3, 1) := by decide +kernel
theorem dX6_init_4 : decode cX6_init 4 = .ok (.invokespecial 3, 3) := by decide +kernel
theorem dX6_init_7 : decode cX6_init 7 = .ok (.aload_n 0, 1) := by decide +kernel
theorem dX6_init_8 : decode cX6_init 8 = .ok (.aload 4, 2) := by decide +kernel
theorem dX6_init_10 : decode cX6_init 10 = .ok (.putfield 9, 3) := by decide +kernel
theorem dX6_init_13 : decode cX6_init 13 = .ok (.return_, 1) := by decide +kernel
theorem dX6_run_0 : decode cX6_run 0 = .ok (.aload_n 0, 1) := by decide +kernel
theorem dX6_run_1 : decode cX6_run 1 = .ok (.invokevirtual 15, 3) := by decide +kernel
theorem dX6_run_4 : decode cX6_run 4 = .ok (.istore_n 1, 1) := by decide +kernel
theorem dX6_run_5 : decode cX6_run 5 = .ok (.iload_n 1, 1) := by decide +kernel
theorem dX6_run_6 : decode cX6_run 6 = .ok (.ifCond .eq 5, 3) := by decide +kernel
theorem dX6_run_9 : decode cX6_run 9 = .ok (.iload_n 1, 1) := by decide +kernel
theorem dX6_run_10 : decode cX6_run 10 = .ok (.ireturn, 1) := by decide +kernel
theorem dX6_run_11 : decode cX6_run 11 = .ok (.aload_n 0, 1) := by decide +kernel
theorem dX6_run_12 : decode cX6_run 12 = .ok (.aload_n 0, 1) := by decide +kernel
theorem dX6_run_13 : decode cX6_run 13 = .ok (.getfield 19, 3) := by decide +kernel
theorem dX6_run_16 : decode cX6_run 16 = .ok (.invokevirtual 23, 3) := by decide +kernel
theorem dX6_run_19 : decode cX6_run 19 = .ok (.iconst 1, 1) := by decide +kernel
theorem dX6_run_20 : decode cX6_run 20 = .ok (.istore_n 2, 1) := by decide +kernel
theorem dX6_run_21 : decode cX6_run 21 = .ok (.iconst 0, 1) := by decide +kernel
theorem dX6_run_22 : decode cX6_run 22 = .ok (.istore_n 3, 1) := by decide +kernel
theorem dX6_run_23 : decode cX6_run 23 = .ok (.iload_n 3, 1) := by decide +kernel
theorem dX6_run_24 : decode cX6_run 24 = .ok (.aload_n 0, 1) := by decide +kernel
theorem dX6_run_25 : decode cX6_run 25 = .ok (.getfield 27, 3) := by decide +kernel
theorem dX6_run_28 : decode cX6_run 28 = .ok (.getfield 31, 3) := by decide +kernel
theorem dX6_run_31 : decode cX6_run 31 = .ok (.if_icmp .ge 52, 3) := by decide +kernel
theorem dX6_run_34 : decode cX6_run 34 = .ok (.iload_n 1, 1) := by decide +kernel
theorem dX6_run_35 : decode cX6_run 35 = .ok (.ifCond .ne 48, 3) := by decide +kernel
theorem dX6_run_38 : decode cX6_run 38 = .ok (.aload_n 0, 1) := by decide +kernel
theorem dX6_run_39 : decode cX6_run 39 = .ok (.iload_n 3, 1) := by decide +kernel
theorem dX6_run_40 : decode cX6_run 40 = .ok (.iload_n 2, 1) := by decide +kernel
theorem dX6_run_41 : decode cX6_run 41 = .ok (.invokevirtual 37, 3) := by decide +kernel
theorem dX6_run_44 : decode cX6_run 44 = .ok (.ifCond .eq 12, 3) := by decide +kernel
theorem dX6_run_47 : decode cX6_run 47 = .ok (.aload_n 0, 1) := by decide +kernel
theorem dX6_run_48 : decode cX6_run 48 = .ok (.iload_n 3, 1) := by decide +kernel
theorem dX6_run_49 : decode cX6_run 49 = .ok (.invokevirtual 41, 3) := by decide +kernel
theorem dX6_run_52 : decode cX6_run 52 = .ok (.istore_n 1, 1) := by decide +kernel
theorem dX6_run_53 : decode cX6_run 53 = .ok (.goto 11, 3) := by decide +kernel
theorem dX6_run_56 : decode cX6_run 56 = .ok (.bipush 10, 2) := by decide +kernel
theorem dX6_run_58 : decode cX6_run 58 = .ok (.istore_n 1, 1) := by decide +kernel
theorem dX6_run_59 : decode cX6_run 59 = .ok (.aload_n 0, 1) := by decide +kernel
theorem dX6_run_60 : decode cX6_run 60 = .ok (.iload_n 3, 1) := by decide +kernel
theorem dX6_run_61 : decode cX6_run 61 = .ok (.putfield 45, 3) := by decide +kernel
theorem dX6_run_64 : decode cX6_run 64 = .ok (.aload_n 0, 1) := by decide +kernel
theorem dX6_run_65 : decode cX6_run 65 = .ok (.getfield 27, 3) := by decide +kernel
theorem dX6_run_68 : decode cX6_run 68 = .ok (.getfield 48, 3) := by decide +kernel
theorem dX6_run_71 : decode cX6_run 71 = .ok (.iload_n 3, 1) := by decide +kernel
theorem dX6_run_72 : decode cX6_run 72 = .ok (.iaload, 1) := by decide +kernel
theorem dX6_run_73 : decode cX6_run 73 = .ok (.invokestatic 52, 3) := by decide +kernel
theorem dX6_run_76 : decode cX6_run 76 = .ok (.istore_n 2, 1) := by decide +kernel
theorem dX6_run_77 : decode cX6_run 77 = .ok (.iinc 3 1, 3) := by decide +kernel
theorem dX6_run_80 : decode cX6_run 80 = .ok (.goto (-57), 3) := by decide +kernel
theorem dX6_run_83 : decode cX6_run 83 = .ok (.iload_n 1, 1) := by decide +kernel
theorem dX6_run_84 : decode cX6_run 84 = .ok (.ireturn, 1) := by decide +kernel
theorem dX6_enter_0 : decode cX6_enter 0 = .ok (.aload_n 0, 1) := by decide +kernel
theorem dX6_enter_1 : decode cX6_enter 1 = .ok (.getfield 9, 3) := by decide +kernel
theorem dX6_enter_4 : decode cX6_enter 4 = .ok (.iload_n 1, 1) := by decide +kernel
theorem dX6_enter_5 : decode cX6_enter 5 = .ok (.invokevirtual 58, 3) := by decide +kernel
theorem dX6_enter_8 : decode cX6_enter 8 = .ok (.ifCond .ne 5, 3) := by decide +kernel
theorem dX6_enter_11 : decode cX6_enter 11 = .ok (.iload_n 2, 1) := by decide +kernel
theorem dX6_enter_12 : decode cX6_enter 12 = .ok (.ireturn, 1) := by decide +kernel
theorem dX6_enter_13 : decode cX6_enter 13 = .ok (.iload_n 2, 1) := by decide +kernel
theorem dX6_enter_14 : decode cX6_enter 14 = .ok (.ifCond .eq 28, 3) := by decide +kernel
theorem dX6_enter_17 : decode cX6_enter 17 = .ok (.aload_n 0, 1) := by decide +kernel
theorem dX6_enter_18 : decode cX6_enter 18 = .ok (.getfield 63, 3) := by decide +kernel
theorem dX6_enter_21 : decode cX6_enter 21 = .ok (.aload_n 0, 1) := by decide +kernel
theorem dX6_enter_22 : decode cX6_enter 22 = .ok (.getfield 19, 3) := by decide +kernel
theorem dX6_enter_25 : decode cX6_enter 25 = .ok (.aload_n 0, 1) := by decide +kernel
theorem dX6_enter_26 : decode cX6_enter 26 = .ok (.getfield 9, 3) := by decide +kernel
theorem dX6_enter_29 : decode cX6_enter 29 = .ok (.getfield 67, 3) := by decide +kernel
theorem dX6_enter_32 : decode cX6_enter 32 = .ok (.iload_n 1, 1) := by decide +kernel
theorem dX6_enter_33 : decode cX6_enter 33 = .ok (.aaload, 1) := by decide +kernel
theorem dX6_enter_34 : decode cX6_enter 34 = .ok (.invokevirtual 71, 3) := by decide +kernel
theorem dX6_enter_37 : decode cX6_enter 37 = .ok (.ifCond .ne 5, 3) := by decide +kernel
theorem dX6_enter_40 : decode cX6_enter 40 = .ok (.iconst 0, 1) := by decide +kernel
theorem dX6_enter_41 : decode cX6_enter 41 = .ok (.ireturn, 1) := by decide +kernel
theorem dX6_enter_42 : decode cX6_enter 42 = .ok (.aload_n 0, 1) := by decide +kernel
theorem dX6_enter_43 : decode cX6_enter 43 = .ok (.getfield 19, 3) := by decide +kernel
theorem dX6_enter_46 : decode cX6_enter 46 = .ok (.aload_n 0, 1) := by decide +kernel
theorem dX6_enter_47 : decode cX6_enter 47 = .ok (.getfield 9, 3) := by decide +kernel
theorem dX6_enter_50 : decode cX6_enter 50 = .ok (.getfield 67, 3) := by decide +kernel
theorem dX6_enter_53 : decode cX6_enter 53 = .ok (.iload_n 1, 1) := by decide +kernel
theorem dX6_enter_54 : decode cX6_enter 54 = .ok (.aaload, 1) := by decide +kernel
theorem dX6_enter_55 : decode cX6_enter 55 = .ok (.invokevirtual 77, 3) := by decide +kernel
theorem dX6_enter_58 : decode cX6_enter 58 = .ok (.iconst 1, 1) := by decide +kernel
theorem dX6_enter_59 : decode cX6_enter 59 = .ok (.ireturn, 1) := by decide +kernel
theorem dX6_flow_0 : decode cX6_flow 0 = .ok (.iload_n 3, 1) := by decide +kernel
theorem dX6_flow_1 : decode cX6_flow 1 = .ok (.ifCond .eq 5, 3) := by decide +kernel
theorem dX6_flow_4 : decode cX6_flow 4 = .ok (.iconst 0, 1) := by decide +kernel
theorem dX6_flow_5 : decode cX6_flow 5 = .ok (.ireturn, 1) := by decide +kernel
theorem dX6_flow_6 : decode cX6_flow 6 = .ok (.aload_n 0, 1) := by decide +kernel
theorem dX6_flow_7 : decode cX6_flow 7 = .ok (.getfield 9, 3) := by decide +kernel
theorem dX6_flow_10 : decode cX6_flow 10 = .ok (.iload_n 1, 1) := by decide +kernel
theorem dX6_flow_11 : decode cX6_flow 11 = .ok (.invokevirtual 58, 3) := by decide +kernel
theorem dX6_flow_14 : decode cX6_flow 14 = .ok (.ifCond .eq 27, 3) := by decide +kernel
theorem dX6_flow_17 : decode cX6_flow 17 = .ok (.aload_n 0, 1) := by decide +kernel
theorem dX6_flow_18 : decode cX6_flow 18 = .ok (.getfield 63, 3) := by decide +kernel
theorem dX6_flow_21 : decode cX6_flow 21 = .ok (.aload_n 2, 1) := by decide +kernel
theorem dX6_flow_22 : decode cX6_flow 22 = .ok (.aload_n 0, 1) := by decide +kernel
theorem dX6_flow_23 : decode cX6_flow 23 = .ok (.getfield 9, 3) := by decide +kernel
theorem dX6_flow_26 : decode cX6_flow 26 = .ok (.getfield 67, 3) := by decide +kernel
theorem dX6_flow_29 : decode cX6_flow 29 = .ok (.iload_n 1, 1) := by decide +kernel
theorem dX6_flow_30 : decode cX6_flow 30 = .ok (.aaload, 1) := by decide +kernel
theorem dX6_flow_31 : decode cX6_flow 31 = .ok (.invokevirtual 71, 3) := by decide +kernel
theorem dX6_flow_34 : decode cX6_flow 34 = .ok (.ifCond .eq 7, 3) := by decide +kernel
theorem dX6_flow_37 : decode cX6_flow 37 = .ok (.iconst 1, 1) := by decide +kernel
theorem dX6_flow_38 : decode cX6_flow 38 = .ok (.goto 4, 3) := by decide +kernel
theorem dX6_flow_41 : decode cX6_flow 41 = .ok (.iconst 0, 1) := by decide +kernel
theorem dX6_flow_42 : decode cX6_flow 42 = .ok (.istore 4, 2) := by decide +kernel
theorem dX6_flow_44 : decode cX6_flow 44 = .ok (.iload 4, 2) := by decide +kernel
theorem dX6_flow_46 : decode cX6_flow 46 = .ok (.ifCond .eq 7, 3) := by decide +kernel
theorem dX6_flow_49 : decode cX6_flow 49 = .ok (.iconst 0, 1) := by decide +kernel
theorem dX6_flow_50 : decode cX6_flow 50 = .ok (.goto 5, 3) := by decide +kernel
theorem dX6_flow_53 : decode cX6_flow 53 = .ok (.bipush 10, 2) := by decide +kernel
theorem dX6_flow_55 : decode cX6_flow 55 = .ok (.ireturn, 1) := by decide +kernel
theorem dX7_init_0 : decode cX7_init 0 = .ok (.aload_n 0, 1) := by decide +kernel
theorem dX7_init_1 : decode cX7_init 1 = .ok (.invokespecial 3, 3) := by decide +kernel
theorem dX7_init_4 : decode cX7_init 4 = .ok (.aload_n 0, 1) := by decide +kernel
theorem dX7_init_5 : decode cX7_init 5 = .ok (.aload_n 1, 1) := by decide +kernel
theorem dX7_init_6 : decode cX7_init 6 = .ok (.putfield 9, 3) := by decide +kernel
theorem dX7_init_9 : decode cX7_init 9 = .ok (.aload_n 0, 1) := by decide +kernel
theorem dX7_init_10 : decode cX7_init 10 = .ok (.aload_n 2, 1) := by decide +kernel
theorem dX7_init_11 : decode cX7_init 11 = .ok (.putfield 15, 3) := by decide +kernel
theorem dX7_init_14 : decode cX7_init 14 = .ok (.aload_n 0, 1) := by decide +kernel
theorem dX7_init_15 : decode cX7_init 15 = .ok (.aload_n 3, 1) := by decide +kernel
theorem dX7_init_16 : decode cX7_init 16 = .ok (.putfield 19, 3) := by decide +kernel
theorem dX7_init_19 : decode cX7_init 19 = .ok (.aload_n 0, 1) := by decide +kernel
theorem dX7_init_20 : decode cX7_init 20 = .ok (.new 23, 3) := by decide +kernel
theorem dX7_init_23 : decode cX7_init 23 = .ok (.dup, 1) := by decide +kernel
theorem dX7_init_24 : decode cX7_init 24 = .ok (.invokespecial 25, 3) := by decide +kernel
theorem dX7_init_27 : decode cX7_init 27 = .ok (.putfield 26, 3) := by decide +kernel
theorem dX7_init_30 : decode cX7_init 30 = .ok (.aload_n 0, 1) := by decide +kernel
theorem dX7_init_31 : decode cX7_init 31 = .ok (.iconst 0, 1) := by decide +kernel
theorem dX7_init_32 : decode cX7_init 32 = .ok (.putfield 30, 3) := by decide +kernel
theorem dX7_init_35 : decode cX7_init 35 = .ok (.return_, 1) := by decide +kernel
theorem dX7_execute_0 : decode cX7_execute 0 = .ok (.aload_n 0, 1) := by decide +kernel
theorem dX7_execute_1 : decode cX7_execute 1 = .ok (.aload_n 2, 1) := by decide +kernel
theorem dX7_execute_2 : decode cX7_execute 2 = .ok (.putfield 26, 3) := by decide +kernel
theorem dX7_execute_5 : decode cX7_execute 5 = .ok (.aload_n 0, 1) := by decide +kernel
theorem dX7_execute_6 : decode cX7_execute 6 = .ok (.iconst 0, 1) := by decide +kernel
theorem dX7_execute_7 : decode cX7_execute 7 = .ok (.putfield 30, 3) := by decide +kernel
theorem dX7_execute_10 : decode cX7_execute 10 = .ok (.aload_n 0, 1) := by decide +kernel
theorem dX7_execute_11 : decode cX7_execute 11 = .ok (.getfield 19, 3) := by decide +kernel
theorem dX7_execute_14 : decode cX7_execute 14 = .ok (.getfield 34, 3) := by decide +kernel
theorem dX7_execute_17 : decode cX7_execute 17 = .ok (.iload_n 1, 1) := by decide +kernel
theorem dX7_execute_18 : decode cX7_execute 18 = .ok (.iaload, 1) := by decide +kernel
theorem dX7_execute_19 : decode cX7_execute 19 = .ok (.istore_n 3, 1) := by decide +kernel
theorem dX7_execute_20 : decode cX7_execute 20 = .ok (.aload_n 0, 1) := by decide +kernel
theorem dX7_execute_21 : decode cX7_execute 21 = .ok (.getfield 19, 3) := by decide +kernel
theorem dX7_execute_24 : decode cX7_execute 24 = .ok (.getfield 40, 3) := by decide +kernel
theorem dX7_execute_27 : decode cX7_execute 27 = .ok (.iload_n 1, 1) := by decide +kernel
theorem dX7_execute_28 : decode cX7_execute 28 = .ok (.iaload, 1) := by decide +kernel
theorem dX7_execute_29 : decode cX7_execute 29 = .ok (.istore 4, 2) := by decide +kernel
theorem dX7_execute_31 : decode cX7_execute 31 = .ok (.iload_n 3, 1) := by decide +kernel
theorem dX7_execute_32 : decode cX7_execute 32 = .ok (.bipush 9, 2) := by decide +kernel
theorem dX7_execute_34 : decode cX7_execute 34 = .ok (.if_icmp .le 9, 3) := by decide +kernel
theorem dX7_execute_37 : decode cX7_execute 37 = .ok (.iload_n 3, 1) := by decide +kernel
theorem dX7_execute_38 : decode cX7_execute 38 = .ok (.bipush 21, 2) := by decide +kernel
theorem dX7_execute_40 : decode cX7_execute 40 = .ok (.if_icmp .ne 13, 3) := by decide +kernel
theorem dX7_execute_43 : decode cX7_execute 43 = .ok (.aload_n 0, 1) := by decide +kernel
theorem dX7_execute_44 : decode cX7_execute 44 = .ok (.iload_n 3, 1) := by decide +kernel
theorem dX7_execute_45 : decode cX7_execute 45 = .ok (.iload 4, 2) := by decide +kernel
theorem dX7_execute_47 : decode cX7_execute 47 = .ok (.invokevirtual 45, 3) := by decide +kernel
theorem dX7_execute_50 : decode cX7_execute 50 = .ok (.goto 113, 3) := by decide +kernel
theorem dX7_execute_53 : decode cX7_execute 53 = .ok (.iload_n 3, 1) := by decide +kernel
theorem dX7_execute_54 : decode cX7_execute 54 = .ok (.bipush 15, 2) := by decide +kernel
theorem dX7_execute_56 : decode cX7_execute 56 = .ok (.if_icmp .gt 11, 3) := by decide +kernel
theorem dX7_execute_59 : decode cX7_execute 59 = .ok (.aload_n 0, 1) := by decide +kernel
theorem dX7_execute_60 : decode cX7_execute 60 = .ok (.iload_n 3, 1) := by decide +kernel
theorem dX7_execute_61 : decode cX7_execute 61 = .ok (.invokevirtual 49, 3) := by decide +kernel
theorem dX7_execute_64 : decode cX7_execute 64 = .ok (.goto 99, 3) := by decide +kernel
theorem dX7_execute_67 : decode cX7_execute 67 = .ok (.iload_n 3, 1) := by decide +kernel
theorem dX7_execute_68 : decode cX7_execute 68 = .ok (.bipush 26, 2) := by decide +kernel
theorem dX7_execute_70 : decode cX7_execute 70 = .ok (.if_icmp .gt 11, 3) := by decide +kernel
theorem dX7_execute_73 : decode cX7_execute 73 = .ok (.aload_n 0, 1) := by decide +kernel
theorem dX7_execute_74 : decode cX7_execute 74 = .ok (.iload_n 3, 1) := by decide +kernel
theorem dX7_execute_75 : decode cX7_execute 75 = .ok (.invokevirtual 53, 3) := by decide +kernel
theorem dX7_execute_78 : decode cX7_execute 78 = .ok (.goto 85, 3) := by decide +kernel
theorem dX7_execute_81 : decode cX7_execute 81 = .ok (.iload_n 3, 1) := by decide +kernel
theorem dX7_execute_82 : decode cX7_execute 82 = .ok (.bipush 31, 2) := by decide +kernel
theorem dX7_execute_84 : decode cX7_execute 84 = .ok (.if_icmp .gt 11, 3) := by decide +kernel
theorem dX7_execute_87 : decode cX7_execute 87 = .ok (.aload_n 0, 1) := by decide +kernel
theorem dX7_execute_88 : decode cX7_execute 88 = .ok (.iload_n 3, 1) := by decide +kernel
theorem dX7_execute_89 : decode cX7_execute 89 = .ok (.invokevirtual 56, 3) := by decide +kernel
theorem dX7_execute_92 : decode cX7_execute 92 = .ok (.goto 71, 3) := by decide +kernel
theorem dX7_execute_95 : decode cX7_execute 95 = .ok (.iload_n 3, 1) := by decide +kernel
theorem dX7_execute_96 : decode cX7_execute 96 = .ok (.bipush 34, 2) := by decide +kernel
theorem dX7_execute_98 : decode cX7_execute 98 = .ok (.if_icmp .ne 14, 3) := by decide +kernel
theorem dX7_execute_101 : decode cX7_execute 101 = .ok (.aload_n 0, 1) := by decide +kernel
theorem dX7_execute_102 : decode cX7_execute 102 = .ok (.bipush (-10), 2) := by decide +kernel
theorem dX7_execute_104 : decode cX7_execute 104 = .ok (.iload_n 1, 1) := by decide +kernel
theorem dX7_execute_105 : decode cX7_execute 105 = .ok (.isub, 1) := by decide +kernel
theorem dX7_execute_106 : decode cX7_execute 106 = .ok (.invokevirtual 59, 3) := by decide +kernel
theorem dX7_execute_109 : decode cX7_execute 109 = .ok (.goto 54, 3) := by decide +kernel
theorem dX7_execute_112 : decode cX7_execute 112 = .ok (.iload_n 3, 1) := by decide +kernel
theorem dX7_execute_113 : decode cX7_execute 113 = .ok (.bipush 35, 2) := by decide +kernel
theorem dX7_execute_115 : decode cX7_execute 115 = .ok (.if_icmp .lt 19, 3) := by decide +kernel
theorem dX7_execute_118 : decode cX7_execute 118 = .ok (.iload_n 3, 1) := by decide +kernel
theorem dX7_execute_119 : decode cX7_execute 119 = .ok (.bipush 37, 2) := by decide +kernel
theorem dX7_execute_121 : decode cX7_execute 121 = .ok (.if_icmp .gt 13, 3) := by decide +kernel
theorem dX7_execute_124 : decode cX7_execute 124 = .ok (.aload_n 0, 1) := by decide +kernel
theorem dX7_execute_125 : decode cX7_execute 125 = .ok (.iload_n 3, 1) := by decide +kernel
theorem dX7_execute_126 : decode cX7_execute 126 = .ok (.iload 4, 2) := by decide +kernel
theorem dX7_execute_128 : decode cX7_execute 128 = .ok (.invokevirtual 62, 3) := by decide +kernel
theorem dX7_execute_131 : decode cX7_execute 131 = .ok (.goto 32, 3) := by decide +kernel
theorem dX7_execute_134 : decode cX7_execute 134 = .ok (.iload_n 3, 1) := by decide +kernel
theorem dX7_execute_135 : decode cX7_execute 135 = .ok (.bipush 38, 2) := by decide +kernel
theorem dX7_execute_137 : decode cX7_execute 137 = .ok (.if_icmp .lt 19, 3) := by decide +kernel
theorem dX7_execute_140 : decode cX7_execute 140 = .ok (.iload_n 3, 1) := by decide +kernel
theorem dX7_execute_141 : decode cX7_execute 141 = .ok (.bipush 43, 2) := by decide +kernel
theorem dX7_execute_143 : decode cX7_execute 143 = .ok (.if_icmp .gt 13, 3) := by decide +kernel
theorem dX7_execute_146 : decode cX7_execute 146 = .ok (.aload_n 0, 1) := by decide +kernel
theorem dX7_execute_147 : decode cX7_execute 147 = .ok (.iload_n 3, 1) := by decide +kernel
theorem dX7_execute_148 : decode cX7_execute 148 = .ok (.iload 4, 2) := by decide +kernel
theorem dX7_execute_150 : decode cX7_execute 150 = .ok (.invokevirtual 65, 3) := by decide +kernel
theorem dX7_execute_153 : decode cX7_execute 153 = .ok (.goto 10, 3) := by decide +kernel
theorem dX7_execute_156 : decode cX7_execute 156 = .ok (.aload_n 0, 1) := by decide +kernel
theorem dX7_execute_157 : decode cX7_execute 157 = .ok (.iload_n 3, 1) := by decide +kernel
theorem dX7_execute_158 : decode cX7_execute 158 = .ok (.iload 4, 2) := by decide +kernel
theorem dX7_execute_160 : decode cX7_execute 160 = .ok (.invokevirtual 68, 3) := by decide +kernel
theorem dX7_execute_163 : decode cX7_execute 163 = .ok (.aload_n 0, 1) := by decide +kernel
theorem dX7_execute_164 : decode cX7_execute 164 = .ok (.getfield 30, 3) := by decide +kernel
theorem dX7_execute_167 : decode cX7_execute 167 = .ok (.ireturn, 1) := by decide +kernel
theorem dX7_executeLocal_0 : decode cX7_executeLocal 0 = .ok (.iload_n 1, 1) := by decide +kernel
theorem dX7_executeLocal_1 : decode cX7_executeLocal 1 = .ok (.tableswitch 296 1 21 #[99, 107, 116, 124, 154, 187, 220, 234, 259, 296, 296, 296, 296, 296, 296, 296, 296, 296, 296, 296, 271], 99) := by decide +kernel
theorem dX7_executeLocal_100 : decode cX7_executeLocal 100 = .ok (.aload_n 0, 1) := by decide +kernel
theorem dX7_executeLocal_101 : decode cX7_executeLocal 101 = .ok (.iconst 0, 1) := by decide +kernel
theorem dX7_executeLocal_102 : decode cX7_executeLocal 102 = .ok (.invokevirtual 71, 3) := by decide +kernel
theorem dX7_executeLocal_105 : decode cX7_executeLocal 105 = .ok (.goto 192, 3) := by decide +kernel
theorem dX7_executeLocal_108 : decode cX7_executeLocal 108 = .ok (.aload_n 0, 1) := by decide +kernel
theorem dX7_executeLocal_109 : decode cX7_executeLocal 109 = .ok (.bipush 8, 2) := by decide +kernel
theorem dX7_executeLocal_111 : decode cX7_executeLocal 111 = .ok (.invokevirtual 74, 3) := by decide +kernel
theorem dX7_executeLocal_114 : decode cX7_executeLocal 114 = .ok (.goto 183, 3) := by decide +kernel
theorem dX7_executeLocal_117 : decode cX7_executeLocal 117 = .ok (.aload_n 0, 1) := by decide +kernel
theorem dX7_executeLocal_118 : decode cX7_executeLocal 118 = .ok (.iconst (-1), 1) := by decide +kernel
theorem dX7_executeLocal_119 : decode cX7_executeLocal 119 = .ok (.invokevirtual 71, 3) := by decide +kernel
theorem dX7_executeLocal_122 : decode cX7_executeLocal 122 = .ok (.goto 175, 3) := by decide +kernel
theorem dX7_executeLocal_125 : decode cX7_executeLocal 125 = .ok (.aload_n 0, 1) := by decide +kernel
theorem dX7_executeLocal_126 : decode cX7_executeLocal 126 = .ok (.aload_n 0, 1) := by decide +kernel
theorem dX7_executeLocal_127 : decode cX7_executeLocal 127 = .ok (.getfield 26, 3) := by decide +kernel
theorem dX7_executeLocal_130 : decode cX7_executeLocal 130 = .ok (.getfield 77, 3) := by decide +kernel
theorem dX7_executeLocal_133 : decode cX7_executeLocal 133 = .ok (.iload_n 2, 1) := by decide +kernel
theorem dX7_executeLocal_134 : decode cX7_executeLocal 134 = .ok (.iaload, 1) := by decide +kernel
theorem dX7_executeLocal_135 : decode cX7_executeLocal 135 = .ok (.ifCond .ne 7, 3) := by decide +kernel
theorem dX7_executeLocal_138 : decode cX7_executeLocal 138 = .ok (.iconst 1, 1) := by decide +kernel
theorem dX7_executeLocal_139 : decode cX7_executeLocal 139 = .ok (.goto 4, 3) := by decide +kernel
theorem dX7_executeLocal_142 : decode cX7_executeLocal 142 = .ok (.iconst 0, 1) := by decide +kernel
theorem dX7_executeLocal_143 : decode cX7_executeLocal 143 = .ok (.iconst 5, 1) := by decide +kernel
theorem dX7_executeLocal_144 : decode cX7_executeLocal 144 = .ok (.invokevirtual 80, 3) := by decide +kernel
theorem dX7_executeLocal_147 : decode cX7_executeLocal 147 = .ok (.aload_n 0, 1) := by decide +kernel
theorem dX7_executeLocal_148 : decode cX7_executeLocal 148 = .ok (.iconst 0, 1) := by decide +kernel
theorem dX7_executeLocal_149 : decode cX7_executeLocal 149 = .ok (.invokevirtual 71, 3) := by decide +kernel
theorem dX7_executeLocal_152 : decode cX7_executeLocal 152 = .ok (.goto 145, 3) := by decide +kernel
theorem dX7_executeLocal_155 : decode cX7_executeLocal 155 = .ok (.aload_n 0, 1) := by decide +kernel
theorem dX7_executeLocal_156 : decode cX7_executeLocal 156 = .ok (.aload_n 0, 1) := by decide +kernel
theorem dX7_executeLocal_157 : decode cX7_executeLocal 157 = .ok (.getfield 26, 3) := by decide +kernel
theorem dX7_executeLocal_160 : decode cX7_executeLocal 160 = .ok (.getfield 77, 3) := by decide +kernel
theorem dX7_executeLocal_163 : decode cX7_executeLocal 163 = .ok (.iload_n 2, 1) := by decide +kernel
theorem dX7_executeLocal_164 : decode cX7_executeLocal 164 = .ok (.iaload, 1) := by decide +kernel
theorem dX7_executeLocal_165 : decode cX7_executeLocal 165 = .ok (.bipush 8, 2) := by decide +kernel
theorem dX7_executeLocal_167 : decode cX7_executeLocal 167 = .ok (.if_icmp .ne 7, 3) := by decide +kernel
theorem dX7_executeLocal_170 : decode cX7_executeLocal 170 = .ok (.iconst 1, 1) := by decide +kernel
theorem dX7_executeLocal_171 : decode cX7_executeLocal 171 = .ok (.goto 4, 3) := by decide +kernel
theorem dX7_executeLocal_174 : decode cX7_executeLocal 174 = .ok (.iconst 0, 1) := by decide +kernel
theorem dX7_executeLocal_175 : decode cX7_executeLocal 175 = .ok (.iconst 5, 1) := by decide +kernel
theorem dX7_executeLocal_176 : decode cX7_executeLocal 176 = .ok (.invokevirtual 80, 3) := by decide +kernel
theorem dX7_executeLocal_179 : decode cX7_executeLocal 179 = .ok (.aload_n 0, 1) := by decide +kernel
theorem dX7_executeLocal_180 : decode cX7_executeLocal 180 = .ok (.bipush 8, 2) := by decide +kernel
theorem dX7_executeLocal_182 : decode cX7_executeLocal 182 = .ok (.invokevirtual 74, 3) := by decide +kernel
theorem dX7_executeLocal_185 : decode cX7_executeLocal 185 = .ok (.goto 112, 3) := by decide +kernel
theorem dX7_executeLocal_188 : decode cX7_executeLocal 188 = .ok (.aload_n 0, 1) := by decide +kernel
theorem dX7_executeLocal_189 : decode cX7_executeLocal 189 = .ok (.aload_n 0, 1) := by decide +kernel
theorem dX7_executeLocal_190 : decode cX7_executeLocal 190 = .ok (.getfield 26, 3) := by decide +kernel
theorem dX7_executeLocal_193 : decode cX7_executeLocal 193 = .ok (.getfield 77, 3) := by decide +kernel
theorem dX7_executeLocal_196 : decode cX7_executeLocal 196 = .ok (.iload_n 2, 1) := by decide +kernel
theorem dX7_executeLocal_197 : decode cX7_executeLocal 197 = .ok (.iaload, 1) := by decide +kernel
theorem dX7_executeLocal_198 : decode cX7_executeLocal 198 = .ok (.invokestatic 84, 3) := by decide +kernel
theorem dX7_executeLocal_201 : decode cX7_executeLocal 201 = .ok (.iconst 5, 1) := by decide +kernel
theorem dX7_executeLocal_202 : decode cX7_executeLocal 202 = .ok (.invokevirtual 80, 3) := by decide +kernel
theorem dX7_executeLocal_205 : decode cX7_executeLocal 205 = .ok (.aload_n 0, 1) := by decide +kernel
theorem dX7_executeLocal_206 : decode cX7_executeLocal 206 = .ok (.aload_n 0, 1) := by decide +kernel
theorem dX7_executeLocal_207 : decode cX7_executeLocal 207 = .ok (.getfield 26, 3) := by decide +kernel
theorem dX7_executeLocal_210 : decode cX7_executeLocal 210 = .ok (.getfield 77, 3) := by decide +kernel
theorem dX7_executeLocal_213 : decode cX7_executeLocal 213 = .ok (.iload_n 2, 1) := by decide +kernel
theorem dX7_executeLocal_214 : decode cX7_executeLocal 214 = .ok (.iaload, 1) := by decide +kernel
theorem dX7_executeLocal_215 : decode cX7_executeLocal 215 = .ok (.invokevirtual 71, 3) := by decide +kernel
theorem dX7_executeLocal_218 : decode cX7_executeLocal 218 = .ok (.goto 79, 3) := by decide +kernel
theorem dX7_executeLocal_221 : decode cX7_executeLocal 221 = .ok (.aload_n 0, 1) := by decide +kernel
theorem dX7_executeLocal_222 : decode cX7_executeLocal 222 = .ok (.iconst 0, 1) := by decide +kernel
theorem dX7_executeLocal_223 : decode cX7_executeLocal 223 = .ok (.invokevirtual 88, 3) := by decide +kernel
theorem dX7_executeLocal_226 : decode cX7_executeLocal 226 = .ok (.aload_n 0, 1) := by decide +kernel
theorem dX7_executeLocal_227 : decode cX7_executeLocal 227 = .ok (.iload_n 2, 1) := by decide +kernel
theorem dX7_executeLocal_228 : decode cX7_executeLocal 228 = .ok (.iconst 0, 1) := by decide +kernel
theorem dX7_executeLocal_229 : decode cX7_executeLocal 229 = .ok (.invokevirtual 91, 3) := by decide +kernel
theorem dX7_executeLocal_232 : decode cX7_executeLocal 232 = .ok (.goto 65, 3) := by decide +kernel
theorem dX7_executeLocal_235 : decode cX7_executeLocal 235 = .ok (.aload_n 0, 1) := by decide +kernel
theorem dX7_executeLocal_236 : decode cX7_executeLocal 236 = .ok (.bipush 8, 2) := by decide +kernel
theorem dX7_executeLocal_238 : decode cX7_executeLocal 238 = .ok (.invokevirtual 88, 3) := by decide +kernel
theorem dX7_executeLocal_241 : decode cX7_executeLocal 241 = .ok (.aload_n 0, 1) := by decide +kernel
theorem dX7_executeLocal_242 : decode cX7_executeLocal 242 = .ok (.iload_n 2, 1) := by decide +kernel
theorem dX7_executeLocal_243 : decode cX7_executeLocal 243 = .ok (.bipush 8, 2) := by decide +kernel
theorem dX7_executeLocal_245 : decode cX7_executeLocal 245 = .ok (.invokevirtual 91, 3) := by decide +kernel
theorem dX7_executeLocal_248 : decode cX7_executeLocal 248 = .ok (.aload_n 0, 1) := by decide +kernel
theorem dX7_executeLocal_249 : decode cX7_executeLocal 249 = .ok (.iload_n 2, 1) := by decide +kernel
theorem dX7_executeLocal_250 : decode cX7_executeLocal 250 = .ok (.iconst 1, 1) := by decide +kernel
theorem dX7_executeLocal_251 : decode cX7_executeLocal 251 = .ok (.iadd, 1) := by decide +kernel
theorem dX7_executeLocal_252 : decode cX7_executeLocal 252 = .ok (.bipush (-3), 2) := by decide +kernel
theorem dX7_executeLocal_254 : decode cX7_executeLocal 254 = .ok (.invokevirtual 91, 3) := by decide +kernel
theorem dX7_executeLocal_257 : decode cX7_executeLocal 257 = .ok (.goto 40, 3) := by decide +kernel
theorem dX7_executeLocal_260 : decode cX7_executeLocal 260 = .ok (.aload_n 0, 1) := by decide +kernel
theorem dX7_executeLocal_261 : decode cX7_executeLocal 261 = .ok (.iload_n 2, 1) := by decide +kernel
theorem dX7_executeLocal_262 : decode cX7_executeLocal 262 = .ok (.aload_n 0, 1) := by decide +kernel
theorem dX7_executeLocal_263 : decode cX7_executeLocal 263 = .ok (.invokevirtual 94, 3) := by decide +kernel
theorem dX7_executeLocal_266 : decode cX7_executeLocal 266 = .ok (.invokevirtual 91, 3) := by decide +kernel
theorem dX7_executeLocal_269 : decode cX7_executeLocal 269 = .ok (.goto 28, 3) := by decide +kernel
theorem dX7_executeLocal_272 : decode cX7_executeLocal 272 = .ok (.aload_n 0, 1) := by decide +kernel
theorem dX7_executeLocal_273 : decode cX7_executeLocal 273 = .ok (.aload_n 0, 1) := by decide +kernel
theorem dX7_executeLocal_274 : decode cX7_executeLocal 274 = .ok (.getfield 26, 3) := by decide +kernel
theorem dX7_executeLocal_277 : decode cX7_executeLocal 277 = .ok (.getfield 77, 3) := by decide +kernel
theorem dX7_executeLocal_280 : decode cX7_executeLocal 280 = .ok (.iload_n 2, 1) := by decide +kernel
theorem dX7_executeLocal_281 : decode cX7_executeLocal 281 = .ok (.iaload, 1) := by decide +kernel
theorem dX7_executeLocal_282 : decode cX7_executeLocal 282 = .ok (.ifCond .ne 7, 3) := by decide +kernel
theorem dX7_executeLocal_285 : decode cX7_executeLocal 285 = .ok (.iconst 1, 1) := by decide +kernel
theorem dX7_executeLocal_286 : decode cX7_executeLocal 286 = .ok (.goto 4, 3) := by decide +kernel
theorem dX7_executeLocal_289 : decode cX7_executeLocal 289 = .ok (.iconst 0, 1) := by decide +kernel
theorem dX7_executeLocal_290 : decode cX7_executeLocal 290 = .ok (.iconst 5, 1) := by decide +kernel
theorem dX7_executeLocal_291 : decode cX7_executeLocal 291 = .ok (.invokevirtual 80, 3) := by decide +kernel
theorem dX7_executeLocal_294 : decode cX7_executeLocal 294 = .ok (.goto 3, 3) := by decide +kernel
theorem dX7_executeLocal_297 : decode cX7_executeLocal 297 = .ok (.return_, 1) := by decide +kernel
theorem dX7_executeMove_0 : decode cX7_executeMove 0 = .ok (.iload_n 1, 1) := by decide +kernel
theorem dX7_executeMove_1 : decode cX7_executeMove 1 = .ok (.bipush 11, 2) := by decide +kernel
theorem dX7_executeMove_3 : decode cX7_executeMove 3 = .ok (.if_icmp .eq 9, 3) := by decide +kernel
theorem dX7_executeMove_6 : decode cX7_executeMove 6 = .ok (.iload_n 1, 1) := by decide +kernel
theorem dX7_executeMove_7 : decode cX7_executeMove 7 = .ok (.bipush 14, 2) := by decide +kernel
theorem dX7_executeMove_9 : decode cX7_executeMove 9 = .ok (.if_icmp .ne 9, 3) := by decide +kernel
theorem dX7_executeMove_12 : decode cX7_executeMove 12 = .ok (.aload_n 0, 1) := by decide +kernel
theorem dX7_executeMove_13 : decode cX7_executeMove 13 = .ok (.iload_n 1, 1) := by decide +kernel
theorem dX7_executeMove_14 : decode cX7_executeMove 14 = .ok (.invokevirtual 98, 3) := by decide +kernel
theorem dX7_executeMove_17 : decode cX7_executeMove 17 = .ok (.return_, 1) := by decide +kernel
theorem dX7_executeMove_18 : decode cX7_executeMove 18 = .ok (.aload_n 0, 1) := by decide +kernel
theorem dX7_executeMove_19 : decode cX7_executeMove 19 = .ok (.invokevirtual 101, 3) := by decide +kernel
theorem dX7_executeMove_22 : decode cX7_executeMove 22 = .ok (.istore_n 2, 1) := by decide +kernel
theorem dX7_executeMove_23 : decode cX7_executeMove 23 = .ok (.iload_n 1, 1) := by decide +kernel
theorem dX7_executeMove_24 : decode cX7_executeMove 24 = .ok (.tableswitch 88 12 15 #[32, 45, 88, 68], 32) := by decide +kernel
theorem dX7_executeMove_56 : decode cX7_executeMove 56 = .ok (.aload_n 0, 1) := by decide +kernel
theorem dX7_executeMove_57 : decode cX7_executeMove 57 = .ok (.iload_n 2, 1) := by decide +kernel
theorem dX7_executeMove_58 : decode cX7_executeMove 58 = .ok (.invokevirtual 71, 3) := by decide +kernel
theorem dX7_executeMove_61 : decode cX7_executeMove 61 = .ok (.aload_n 0, 1) := by decide +kernel
theorem dX7_executeMove_62 : decode cX7_executeMove 62 = .ok (.iload_n 2, 1) := by decide +kernel
theorem dX7_executeMove_63 : decode cX7_executeMove 63 = .ok (.invokevirtual 71, 3) := by decide +kernel
theorem dX7_executeMove_66 : decode cX7_executeMove 66 = .ok (.goto 46, 3) := by decide +kernel
theorem dX7_executeMove_69 : decode cX7_executeMove 69 = .ok (.aload_n 0, 1) := by decide +kernel
theorem dX7_executeMove_70 : decode cX7_executeMove 70 = .ok (.invokevirtual 101, 3) := by decide +kernel
theorem dX7_executeMove_73 : decode cX7_executeMove 73 = .ok (.istore_n 3, 1) := by decide +kernel
theorem dX7_executeMove_74 : decode cX7_executeMove 74 = .ok (.aload_n 0, 1) := by decide +kernel
theorem dX7_executeMove_75 : decode cX7_executeMove 75 = .ok (.iload_n 2, 1) := by decide +kernel
theorem dX7_executeMove_76 : decode cX7_executeMove 76 = .ok (.invokevirtual 71, 3) := by decide +kernel
theorem dX7_executeMove_79 : decode cX7_executeMove 79 = .ok (.aload_n 0, 1) := by decide +kernel
theorem dX7_executeMove_80 : decode cX7_executeMove 80 = .ok (.iload_n 3, 1) := by decide +kernel
theorem dX7_executeMove_81 : decode cX7_executeMove 81 = .ok (.invokevirtual 71, 3) := by decide +kernel
theorem dX7_executeMove_84 : decode cX7_executeMove 84 = .ok (.aload_n 0, 1) := by decide +kernel
theorem dX7_executeMove_85 : decode cX7_executeMove 85 = .ok (.iload_n 2, 1) := by decide +kernel
theorem dX7_executeMove_86 : decode cX7_executeMove 86 = .ok (.invokevirtual 71, 3) := by decide +kernel
theorem dX7_executeMove_89 : decode cX7_executeMove 89 = .ok (.goto 23, 3) := by decide +kernel
theorem dX7_executeMove_92 : decode cX7_executeMove 92 = .ok (.aload_n 0, 1) := by decide +kernel
theorem dX7_executeMove_93 : decode cX7_executeMove 93 = .ok (.invokevirtual 101, 3) := by decide +kernel
theorem dX7_executeMove_96 : decode cX7_executeMove 96 = .ok (.istore 4, 2) := by decide +kernel
theorem dX7_executeMove_98 : decode cX7_executeMove 98 = .ok (.aload_n 0, 1) := by decide +kernel
theorem dX7_executeMove_99 : decode cX7_executeMove 99 = .ok (.iload_n 2, 1) := by decide +kernel
theorem dX7_executeMove_100 : decode cX7_executeMove 100 = .ok (.invokevirtual 71, 3) := by decide +kernel
theorem dX7_executeMove_103 : decode cX7_executeMove 103 = .ok (.aload_n 0, 1) := by decide +kernel
theorem dX7_executeMove_104 : decode cX7_executeMove 104 = .ok (.iload 4, 2) := by decide +kernel
theorem dX7_executeMove_106 : decode cX7_executeMove 106 = .ok (.invokevirtual 71, 3) := by decide +kernel
theorem dX7_executeMove_109 : decode cX7_executeMove 109 = .ok (.goto 3, 3) := by decide +kernel
theorem dX7_executeMove_112 : decode cX7_executeMove 112 = .ok (.return_, 1) := by decide +kernel
theorem dX7_movePair_0 : decode cX7_movePair 0 = .ok (.aload_n 0, 1) := by decide +kernel
theorem dX7_movePair_1 : decode cX7_movePair 1 = .ok (.invokevirtual 104, 3) := by decide +kernel
theorem dX7_movePair_4 : decode cX7_movePair 4 = .ok (.istore_n 2, 1) := by decide +kernel
theorem dX7_movePair_5 : decode cX7_movePair 5 = .ok (.aload_n 0, 1) := by decide +kernel
theorem dX7_movePair_6 : decode cX7_movePair 6 = .ok (.invokevirtual 104, 3) := by decide +kernel
theorem dX7_movePair_9 : decode cX7_movePair 9 = .ok (.istore_n 3, 1) := by decide +kernel
theorem dX7_movePair_10 : decode cX7_movePair 10 = .ok (.aload_n 0, 1) := by decide +kernel
theorem dX7_movePair_11 : decode cX7_movePair 11 = .ok (.iload_n 3, 1) := by decide +kernel
theorem dX7_movePair_12 : decode cX7_movePair 12 = .ok (.bipush 8, 2) := by decide +kernel
theorem dX7_movePair_14 : decode cX7_movePair 14 = .ok (.if_icmp .eq 17, 3) := by decide +kernel
theorem dX7_movePair_17 : decode cX7_movePair 17 = .ok (.iload_n 3, 1) := by decide +kernel
theorem dX7_movePair_18 : decode cX7_movePair 18 = .ok (.invokestatic 107, 3) := by decide +kernel
theorem dX7_movePair_21 : decode cX7_movePair 21 = .ok (.ifCond .eq 14, 3) := by decide +kernel
theorem dX7_movePair_24 : decode cX7_movePair 24 = .ok (.iload_n 2, 1) := by decide +kernel
theorem dX7_movePair_25 : decode cX7_movePair 25 = .ok (.invokestatic 107, 3) := by decide +kernel
theorem dX7_movePair_28 : decode cX7_movePair 28 = .ok (.ifCond .eq 7, 3) := by decide +kernel
theorem dX7_movePair_31 : decode cX7_movePair 31 = .ok (.iconst 1, 1) := by decide +kernel
theorem dX7_movePair_32 : decode cX7_movePair 32 = .ok (.goto 4, 3) := by decide +kernel
theorem dX7_movePair_35 : decode cX7_movePair 35 = .ok (.iconst 0, 1) := by decide +kernel
theorem dX7_movePair_36 : decode cX7_movePair 36 = .ok (.iconst 4, 1) := by decide +kernel
theorem dX7_movePair_37 : decode cX7_movePair 37 = .ok (.invokevirtual 80, 3) := by decide +kernel
theorem dX7_movePair_40 : decode cX7_movePair 40 = .ok (.iload_n 1, 1) := by decide +kernel
theorem dX7_movePair_41 : decode cX7_movePair 41 = .ok (.bipush 14, 2) := by decide +kernel
theorem dX7_movePair_43 : decode cX7_movePair 43 = .ok (.if_icmp .ne 23, 3) := by decide +kernel
theorem dX7_movePair_46 : decode cX7_movePair 46 = .ok (.aload_n 0, 1) := by decide +kernel
theorem dX7_movePair_47 : decode cX7_movePair 47 = .ok (.iload_n 3, 1) := by decide +kernel
theorem dX7_movePair_48 : decode cX7_movePair 48 = .ok (.invokevirtual 71, 3) := by decide +kernel
theorem dX7_movePair_51 : decode cX7_movePair 51 = .ok (.aload_n 0, 1) := by decide +kernel
theorem dX7_movePair_52 : decode cX7_movePair 52 = .ok (.iload_n 2, 1) := by decide +kernel
theorem dX7_movePair_53 : decode cX7_movePair 53 = .ok (.invokevirtual 71, 3) := by decide +kernel
theorem dX7_movePair_56 : decode cX7_movePair 56 = .ok (.aload_n 0, 1) := by decide +kernel
theorem dX7_movePair_57 : decode cX7_movePair 57 = .ok (.iload_n 3, 1) := by decide +kernel
theorem dX7_movePair_58 : decode cX7_movePair 58 = .ok (.invokevirtual 71, 3) := by decide +kernel
theorem dX7_movePair_61 : decode cX7_movePair 61 = .ok (.aload_n 0, 1) := by decide +kernel
theorem dX7_movePair_62 : decode cX7_movePair 62 = .ok (.iload_n 2, 1) := by decide +kernel
theorem dX7_movePair_63 : decode cX7_movePair 63 = .ok (.invokevirtual 71, 3) := by decide +kernel
theorem dX7_movePair_66 : decode cX7_movePair 66 = .ok (.return_, 1) := by decide +kernel
theorem dX7_executeNumber_0 : decode cX7_executeNumber 0 = .ok (.iload_n 1, 1) := by decide +kernel
theorem dX7_executeNumber_1 : decode cX7_executeNumber 1 = .ok (.tableswitch 188 16 26 #[59, 77, 98, 112, 126, 188, 188, 146, 154, 167, 175], 59) := by decide +kernel
theorem dX7_executeNumber_60 : decode cX7_executeNumber 60 = .ok (.aload_n 0, 1) := by decide +kernel
theorem dX7_executeNumber_61 : decode cX7_executeNumber 61 = .ok (.iconst 0, 1) := by decide +kernel
theorem dX7_executeNumber_62 : decode cX7_executeNumber 62 = .ok (.invokevirtual 88, 3) := by decide +kernel
theorem dX7_executeNumber_65 : decode cX7_executeNumber 65 = .ok (.aload_n 0, 1) := by decide +kernel
theorem dX7_executeNumber_66 : decode cX7_executeNumber 66 = .ok (.iconst 0, 1) := by decide +kernel
theorem dX7_executeNumber_67 : decode cX7_executeNumber 67 = .ok (.invokevirtual 88, 3) := by decide +kernel
theorem dX7_executeNumber_70 : decode cX7_executeNumber 70 = .ok (.aload_n 0, 1) := by decide +kernel
theorem dX7_executeNumber_71 : decode cX7_executeNumber 71 = .ok (.iconst 0, 1) := by decide +kernel
theorem dX7_executeNumber_72 : decode cX7_executeNumber 72 = .ok (.invokevirtual 71, 3) := by decide +kernel
theorem dX7_executeNumber_75 : decode cX7_executeNumber 75 = .ok (.goto 114, 3) := by decide +kernel
theorem dX7_executeNumber_78 : decode cX7_executeNumber 78 = .ok (.aload_n 0, 1) := by decide +kernel
theorem dX7_executeNumber_79 : decode cX7_executeNumber 79 = .ok (.bipush 8, 2) := by decide +kernel
theorem dX7_executeNumber_81 : decode cX7_executeNumber 81 = .ok (.invokevirtual 88, 3) := by decide +kernel
theorem dX7_executeNumber_84 : decode cX7_executeNumber 84 = .ok (.aload_n 0, 1) := by decide +kernel
theorem dX7_executeNumber_85 : decode cX7_executeNumber 85 = .ok (.bipush 8, 2) := by decide +kernel
theorem dX7_executeNumber_87 : decode cX7_executeNumber 87 = .ok (.invokevirtual 88, 3) := by decide +kernel
theorem dX7_executeNumber_90 : decode cX7_executeNumber 90 = .ok (.aload_n 0, 1) := by decide +kernel
theorem dX7_executeNumber_91 : decode cX7_executeNumber 91 = .ok (.bipush 8, 2) := by decide +kernel
theorem dX7_executeNumber_93 : decode cX7_executeNumber 93 = .ok (.invokevirtual 74, 3) := by decide +kernel
theorem dX7_executeNumber_96 : decode cX7_executeNumber 96 = .ok (.goto 93, 3) := by decide +kernel
theorem dX7_executeNumber_99 : decode cX7_executeNumber 99 = .ok (.aload_n 0, 1) := by decide +kernel
theorem dX7_executeNumber_100 : decode cX7_executeNumber 100 = .ok (.iconst 0, 1) := by decide +kernel
theorem dX7_executeNumber_101 : decode cX7_executeNumber 101 = .ok (.invokevirtual 88, 3) := by decide +kernel
theorem dX7_executeNumber_104 : decode cX7_executeNumber 104 = .ok (.aload_n 0, 1) := by decide +kernel
theorem dX7_executeNumber_105 : decode cX7_executeNumber 105 = .ok (.bipush 8, 2) := by decide +kernel
theorem dX7_executeNumber_107 : decode cX7_executeNumber 107 = .ok (.invokevirtual 74, 3) := by decide +kernel
theorem dX7_executeNumber_110 : decode cX7_executeNumber 110 = .ok (.goto 79, 3) := by decide +kernel
theorem dX7_executeNumber_113 : decode cX7_executeNumber 113 = .ok (.aload_n 0, 1) := by decide +kernel
theorem dX7_executeNumber_114 : decode cX7_executeNumber 114 = .ok (.bipush 8, 2) := by decide +kernel
theorem dX7_executeNumber_116 : decode cX7_executeNumber 116 = .ok (.invokevirtual 88, 3) := by decide +kernel
theorem dX7_executeNumber_119 : decode cX7_executeNumber 119 = .ok (.aload_n 0, 1) := by decide +kernel
theorem dX7_executeNumber_120 : decode cX7_executeNumber 120 = .ok (.iconst 0, 1) := by decide +kernel
theorem dX7_executeNumber_121 : decode cX7_executeNumber 121 = .ok (.invokevirtual 71, 3) := by decide +kernel
theorem dX7_executeNumber_124 : decode cX7_executeNumber 124 = .ok (.goto 65, 3) := by decide +kernel
theorem dX7_executeNumber_127 : decode cX7_executeNumber 127 = .ok (.aload_n 0, 1) := by decide +kernel
theorem dX7_executeNumber_128 : decode cX7_executeNumber 128 = .ok (.bipush 8, 2) := by decide +kernel
theorem dX7_executeNumber_130 : decode cX7_executeNumber 130 = .ok (.invokevirtual 88, 3) := by decide +kernel
theorem dX7_executeNumber_133 : decode cX7_executeNumber 133 = .ok (.aload_n 0, 1) := by decide +kernel
theorem dX7_executeNumber_134 : decode cX7_executeNumber 134 = .ok (.bipush 8, 2) := by decide +kernel
theorem dX7_executeNumber_136 : decode cX7_executeNumber 136 = .ok (.invokevirtual 88, 3) := by decide +kernel
theorem dX7_executeNumber_139 : decode cX7_executeNumber 139 = .ok (.aload_n 0, 1) := by decide +kernel
theorem dX7_executeNumber_140 : decode cX7_executeNumber 140 = .ok (.iconst 0, 1) := by decide +kernel
theorem dX7_executeNumber_141 : decode cX7_executeNumber 141 = .ok (.invokevirtual 71, 3) := by decide +kernel
theorem dX7_executeNumber_144 : decode cX7_executeNumber 144 = .ok (.goto 45, 3) := by decide +kernel
theorem dX7_executeNumber_147 : decode cX7_executeNumber 147 = .ok (.aload_n 0, 1) := by decide +kernel
theorem dX7_executeNumber_148 : decode cX7_executeNumber 148 = .ok (.iconst 0, 1) := by decide +kernel
theorem dX7_executeNumber_149 : decode cX7_executeNumber 149 = .ok (.invokevirtual 88, 3) := by decide +kernel
theorem dX7_executeNumber_152 : decode cX7_executeNumber 152 = .ok (.goto 37, 3) := by decide +kernel
theorem dX7_executeNumber_155 : decode cX7_executeNumber 155 = .ok (.aload_n 0, 1) := by decide +kernel
theorem dX7_executeNumber_156 : decode cX7_executeNumber 156 = .ok (.iconst 0, 1) := by decide +kernel
theorem dX7_executeNumber_157 : decode cX7_executeNumber 157 = .ok (.invokevirtual 88, 3) := by decide +kernel
theorem dX7_executeNumber_160 : decode cX7_executeNumber 160 = .ok (.aload_n 0, 1) := by decide +kernel
theorem dX7_executeNumber_161 : decode cX7_executeNumber 161 = .ok (.iconst 0, 1) := by decide +kernel
theorem dX7_executeNumber_162 : decode cX7_executeNumber 162 = .ok (.invokevirtual 88, 3) := by decide +kernel
theorem dX7_executeNumber_165 : decode cX7_executeNumber 165 = .ok (.goto 24, 3) := by decide +kernel
theorem dX7_executeNumber_168 : decode cX7_executeNumber 168 = .ok (.aload_n 0, 1) := by decide +kernel
theorem dX7_executeNumber_169 : decode cX7_executeNumber 169 = .ok (.invokevirtual 94, 3) := by decide +kernel
theorem dX7_executeNumber_172 : decode cX7_executeNumber 172 = .ok (.pop, 1) := by decide +kernel
theorem dX7_executeNumber_173 : decode cX7_executeNumber 173 = .ok (.goto 16, 3) := by decide +kernel
theorem dX7_executeNumber_176 : decode cX7_executeNumber 176 = .ok (.aload_n 0, 1) := by decide +kernel
theorem dX7_executeNumber_177 : decode cX7_executeNumber 177 = .ok (.invokevirtual 94, 3) := by decide +kernel
theorem dX7_executeNumber_180 : decode cX7_executeNumber 180 = .ok (.pop, 1) := by decide +kernel
theorem dX7_executeNumber_181 : decode cX7_executeNumber 181 = .ok (.aload_n 0, 1) := by decide +kernel
theorem dX7_executeNumber_182 : decode cX7_executeNumber 182 = .ok (.invokevirtual 94, 3) := by decide +kernel
theorem dX7_executeNumber_185 : decode cX7_executeNumber 185 = .ok (.pop, 1) := by decide +kernel
theorem dX7_executeNumber_186 : decode cX7_executeNumber 186 = .ok (.goto 3, 3) := by decide +kernel
theorem dX7_executeNumber_189 : decode cX7_executeNumber 189 = .ok (.return_, 1) := by decide +kernel
theorem dX7_executeEnd_0 : decode cX7_executeEnd 0 = .ok (.aload_n 0, 1) := by decide +kernel
theorem dX7_executeEnd_1 : decode cX7_executeEnd 1 = .ok (.getfield 15, 3) := by decide +kernel
theorem dX7_executeEnd_4 : decode cX7_executeEnd 4 = .ok (.getfield 110, 3) := by decide +kernel
theorem dX7_executeEnd_7 : decode cX7_executeEnd 7 = .ok (.aload_n 0, 1) := by decide +kernel
theorem dX7_executeEnd_8 : decode cX7_executeEnd 8 = .ok (.getfield 19, 3) := by decide +kernel
theorem dX7_executeEnd_11 : decode cX7_executeEnd 11 = .ok (.getfield 115, 3) := by decide +kernel
theorem dX7_executeEnd_14 : decode cX7_executeEnd 14 = .ok (.iaload, 1) := by decide +kernel
theorem dX7_executeEnd_15 : decode cX7_executeEnd 15 = .ok (.istore_n 2, 1) := by decide +kernel
theorem dX7_executeEnd_16 : decode cX7_executeEnd 16 = .ok (.iload_n 1, 1) := by decide +kernel
theorem dX7_executeEnd_17 : decode cX7_executeEnd 17 = .ok (.tableswitch 147 27 30 #[31, 54, 80, 118], 31) := by decide +kernel
theorem dX7_executeEnd_48 : decode cX7_executeEnd 48 = .ok (.aload_n 0, 1) := by decide +kernel
theorem dX7_executeEnd_49 : decode cX7_executeEnd 49 = .ok (.iconst 0, 1) := by decide +kernel
theorem dX7_executeEnd_50 : decode cX7_executeEnd 50 = .ok (.invokevirtual 88, 3) := by decide +kernel
theorem dX7_executeEnd_53 : decode cX7_executeEnd 53 = .ok (.aload_n 0, 1) := by decide +kernel
theorem dX7_executeEnd_54 : decode cX7_executeEnd 54 = .ok (.iload_n 2, 1) := by decide +kernel
theorem dX7_executeEnd_55 : decode cX7_executeEnd 55 = .ok (.ifCond .ne 7, 3) := by decide +kernel
theorem dX7_executeEnd_58 : decode cX7_executeEnd 58 = .ok (.iconst 1, 1) := by decide +kernel
theorem dX7_executeEnd_59 : decode cX7_executeEnd 59 = .ok (.goto 4, 3) := by decide +kernel
theorem dX7_executeEnd_62 : decode cX7_executeEnd 62 = .ok (.iconst 0, 1) := by decide +kernel
theorem dX7_executeEnd_63 : decode cX7_executeEnd 63 = .ok (.bipush 9, 2) := by decide +kernel
theorem dX7_executeEnd_65 : decode cX7_executeEnd 65 = .ok (.invokevirtual 80, 3) := by decide +kernel
theorem dX7_executeEnd_68 : decode cX7_executeEnd 68 = .ok (.goto 101, 3) := by decide +kernel
theorem dX7_executeEnd_71 : decode cX7_executeEnd 71 = .ok (.aload_n 0, 1) := by decide +kernel
theorem dX7_executeEnd_72 : decode cX7_executeEnd 72 = .ok (.bipush 8, 2) := by decide +kernel
theorem dX7_executeEnd_74 : decode cX7_executeEnd 74 = .ok (.invokevirtual 88, 3) := by decide +kernel
theorem dX7_executeEnd_77 : decode cX7_executeEnd 77 = .ok (.aload_n 0, 1) := by decide +kernel
theorem dX7_executeEnd_78 : decode cX7_executeEnd 78 = .ok (.iload_n 2, 1) := by decide +kernel
theorem dX7_executeEnd_79 : decode cX7_executeEnd 79 = .ok (.bipush 8, 2) := by decide +kernel
theorem dX7_executeEnd_81 : decode cX7_executeEnd 81 = .ok (.if_icmp .ne 7, 3) := by decide +kernel
theorem dX7_executeEnd_84 : decode cX7_executeEnd 84 = .ok (.iconst 1, 1) := by decide +kernel
theorem dX7_executeEnd_85 : decode cX7_executeEnd 85 = .ok (.goto 4, 3) := by decide +kernel
theorem dX7_executeEnd_88 : decode cX7_executeEnd 88 = .ok (.iconst 0, 1) := by decide +kernel
theorem dX7_executeEnd_89 : decode cX7_executeEnd 89 = .ok (.bipush 9, 2) := by decide +kernel
theorem dX7_executeEnd_91 : decode cX7_executeEnd 91 = .ok (.invokevirtual 80, 3) := by decide +kernel
theorem dX7_executeEnd_94 : decode cX7_executeEnd 94 = .ok (.goto 75, 3) := by decide +kernel
theorem dX7_executeEnd_97 : decode cX7_executeEnd 97 = .ok (.aload_n 0, 1) := by decide +kernel
theorem dX7_executeEnd_98 : decode cX7_executeEnd 98 = .ok (.invokevirtual 118, 3) := by decide +kernel
theorem dX7_executeEnd_101 : decode cX7_executeEnd 101 = .ok (.istore_n 3, 1) := by decide +kernel
theorem dX7_executeEnd_102 : decode cX7_executeEnd 102 = .ok (.aload_n 0, 1) := by decide +kernel
theorem dX7_executeEnd_103 : decode cX7_executeEnd 103 = .ok (.iload_n 2, 1) := by decide +kernel
theorem dX7_executeEnd_104 : decode cX7_executeEnd 104 = .ok (.invokestatic 121, 3) := by decide +kernel
theorem dX7_executeEnd_107 : decode cX7_executeEnd 107 = .ok (.ifCond .eq 19, 3) := by decide +kernel
theorem dX7_executeEnd_110 : decode cX7_executeEnd 110 = .ok (.aload_n 0, 1) := by decide +kernel
theorem dX7_executeEnd_111 : decode cX7_executeEnd 111 = .ok (.getfield 9, 3) := by decide +kernel
theorem dX7_executeEnd_114 : decode cX7_executeEnd 114 = .ok (.iload_n 3, 1) := by decide +kernel
theorem dX7_executeEnd_115 : decode cX7_executeEnd 115 = .ok (.iload_n 2, 1) := by decide +kernel
theorem dX7_executeEnd_116 : decode cX7_executeEnd 116 = .ok (.invokevirtual 124, 3) := by decide +kernel
theorem dX7_executeEnd_119 : decode cX7_executeEnd 119 = .ok (.ifCond .eq 7, 3) := by decide +kernel
theorem dX7_executeEnd_122 : decode cX7_executeEnd 122 = .ok (.iconst 1, 1) := by decide +kernel
theorem dX7_executeEnd_123 : decode cX7_executeEnd 123 = .ok (.goto 4, 3) := by decide +kernel
theorem dX7_executeEnd_126 : decode cX7_executeEnd 126 = .ok (.iconst 0, 1) := by decide +kernel
theorem dX7_executeEnd_127 : decode cX7_executeEnd 127 = .ok (.bipush 9, 2) := by decide +kernel
theorem dX7_executeEnd_129 : decode cX7_executeEnd 129 = .ok (.invokevirtual 80, 3) := by decide +kernel
theorem dX7_executeEnd_132 : decode cX7_executeEnd 132 = .ok (.goto 37, 3) := by decide +kernel
theorem dX7_executeEnd_135 : decode cX7_executeEnd 135 = .ok (.aload_n 0, 1) := by decide +kernel
theorem dX7_executeEnd_136 : decode cX7_executeEnd 136 = .ok (.iload_n 2, 1) := by decide +kernel
theorem dX7_executeEnd_137 : decode cX7_executeEnd 137 = .ok (.iconst (-1), 1) := by decide +kernel
theorem dX7_executeEnd_138 : decode cX7_executeEnd 138 = .ok (.if_icmp .ne 17, 3) := by decide +kernel
theorem dX7_executeEnd_141 : decode cX7_executeEnd 141 = .ok (.aload_n 0, 1) := by decide +kernel
theorem dX7_executeEnd_142 : decode cX7_executeEnd 142 = .ok (.getfield 26, 3) := by decide +kernel
theorem dX7_executeEnd_145 : decode cX7_executeEnd 145 = .ok (.getfield 130, 3) := by decide +kernel
theorem dX7_executeEnd_148 : decode cX7_executeEnd 148 = .ok (.ifCond .ne 7, 3) := by decide +kernel
theorem dX7_executeEnd_151 : decode cX7_executeEnd 151 = .ok (.iconst 1, 1) := by decide +kernel
theorem dX7_executeEnd_152 : decode cX7_executeEnd 152 = .ok (.goto 4, 3) := by decide +kernel
theorem dX7_executeEnd_155 : decode cX7_executeEnd 155 = .ok (.iconst 0, 1) := by decide +kernel
theorem dX7_executeEnd_156 : decode cX7_executeEnd 156 = .ok (.bipush 9, 2) := by decide +kernel
theorem dX7_executeEnd_158 : decode cX7_executeEnd 158 = .ok (.invokevirtual 80, 3) := by decide +kernel
theorem dX7_executeEnd_161 : decode cX7_executeEnd 161 = .ok (.goto 8, 3) := by decide +kernel
theorem dX7_executeEnd_164 : decode cX7_executeEnd 164 = .ok (.aload_n 0, 1) := by decide +kernel
theorem dX7_executeEnd_165 : decode cX7_executeEnd 165 = .ok (.invokevirtual 118, 3) := by decide +kernel
theorem dX7_executeEnd_168 : decode cX7_executeEnd 168 = .ok (.pop, 1) := by decide +kernel
theorem dX7_executeEnd_169 : decode cX7_executeEnd 169 = .ok (.return_, 1) := by decide +kernel
theorem dX7_executeObject_0 : decode cX7_executeObject 0 = .ok (.iload_n 1, 1) := by decide +kernel
theorem dX7_executeObject_1 : decode cX7_executeObject 1 = .ok (.lookupswitch 109 #[(32, 35), (33, 67), (44, 96)], 35) := by decide +kernel
theorem dX7_executeObject_36 : decode cX7_executeObject 36 = .ok (.aload_n 0, 1) := by decide +kernel
theorem dX7_executeObject_37 : decode cX7_executeObject 37 = .ok (.bipush 8, 2) := by decide +kernel
theorem dX7_executeObject_39 : decode cX7_executeObject 39 = .ok (.aload_n 0, 1) := by decide +kernel
theorem dX7_executeObject_40 : decode cX7_executeObject 40 = .ok (.getfield 15, 3) := by decide +kernel
theorem dX7_executeObject_43 : decode cX7_executeObject 43 = .ok (.getfield 134, 3) := by decide +kernel
theorem dX7_executeObject_46 : decode cX7_executeObject 46 = .ok (.iload_n 2, 1) := by decide +kernel
theorem dX7_executeObject_47 : decode cX7_executeObject 47 = .ok (.iaload, 1) := by decide +kernel
theorem dX7_executeObject_48 : decode cX7_executeObject 48 = .ok (.imul, 1) := by decide +kernel
theorem dX7_executeObject_49 : decode cX7_executeObject 49 = .ok (.invokevirtual 88, 3) := by decide +kernel
theorem dX7_executeObject_52 : decode cX7_executeObject 52 = .ok (.aload_n 0, 1) := by decide +kernel
theorem dX7_executeObject_53 : decode cX7_executeObject 53 = .ok (.aload_n 0, 1) := by decide +kernel
theorem dX7_executeObject_54 : decode cX7_executeObject 54 = .ok (.getfield 15, 3) := by decide +kernel
theorem dX7_executeObject_57 : decode cX7_executeObject 57 = .ok (.getfield 137, 3) := by decide +kernel
theorem dX7_executeObject_60 : decode cX7_executeObject 60 = .ok (.iload_n 2, 1) := by decide +kernel
theorem dX7_executeObject_61 : decode cX7_executeObject 61 = .ok (.iaload, 1) := by decide +kernel
theorem dX7_executeObject_62 : decode cX7_executeObject 62 = .ok (.invokevirtual 74, 3) := by decide +kernel
theorem dX7_executeObject_65 : decode cX7_executeObject 65 = .ok (.goto 55, 3) := by decide +kernel
theorem dX7_executeObject_68 : decode cX7_executeObject 68 = .ok (.aload_n 0, 1) := by decide +kernel
theorem dX7_executeObject_69 : decode cX7_executeObject 69 = .ok (.aload_n 0, 1) := by decide +kernel
theorem dX7_executeObject_70 : decode cX7_executeObject 70 = .ok (.getfield 15, 3) := by decide +kernel
theorem dX7_executeObject_73 : decode cX7_executeObject 73 = .ok (.getfield 137, 3) := by decide +kernel
theorem dX7_executeObject_76 : decode cX7_executeObject 76 = .ok (.iload_n 2, 1) := by decide +kernel
theorem dX7_executeObject_77 : decode cX7_executeObject 77 = .ok (.iaload, 1) := by decide +kernel
theorem dX7_executeObject_78 : decode cX7_executeObject 78 = .ok (.invokevirtual 88, 3) := by decide +kernel
theorem dX7_executeObject_81 : decode cX7_executeObject 81 = .ok (.aload_n 0, 1) := by decide +kernel
theorem dX7_executeObject_82 : decode cX7_executeObject 82 = .ok (.aload_n 0, 1) := by decide +kernel
theorem dX7_executeObject_83 : decode cX7_executeObject 83 = .ok (.getfield 15, 3) := by decide +kernel
theorem dX7_executeObject_86 : decode cX7_executeObject 86 = .ok (.getfield 134, 3) := by decide +kernel
theorem dX7_executeObject_89 : decode cX7_executeObject 89 = .ok (.iload_n 2, 1) := by decide +kernel
theorem dX7_executeObject_90 : decode cX7_executeObject 90 = .ok (.iaload, 1) := by decide +kernel
theorem dX7_executeObject_91 : decode cX7_executeObject 91 = .ok (.invokevirtual 140, 3) := by decide +kernel
theorem dX7_executeObject_94 : decode cX7_executeObject 94 = .ok (.goto 26, 3) := by decide +kernel
theorem dX7_executeObject_97 : decode cX7_executeObject 97 = .ok (.aload_n 0, 1) := by decide +kernel
theorem dX7_executeObject_98 : decode cX7_executeObject 98 = .ok (.invokevirtual 118, 3) := by decide +kernel
theorem dX7_executeObject_101 : decode cX7_executeObject 101 = .ok (.pop, 1) := by decide +kernel
theorem dX7_executeObject_102 : decode cX7_executeObject 102 = .ok (.aload_n 0, 1) := by decide +kernel
theorem dX7_executeObject_103 : decode cX7_executeObject 103 = .ok (.iload_n 2, 1) := by decide +kernel
theorem dX7_executeObject_104 : decode cX7_executeObject 104 = .ok (.invokevirtual 71, 3) := by decide +kernel
theorem dX7_executeObject_107 : decode cX7_executeObject 107 = .ok (.goto 13, 3) := by decide +kernel
theorem dX7_executeObject_110 : decode cX7_executeObject 110 = .ok (.aload_n 0, 1) := by decide +kernel
theorem dX7_executeObject_111 : decode cX7_executeObject 111 = .ok (.invokevirtual 118, 3) := by decide +kernel
theorem dX7_executeObject_114 : decode cX7_executeObject 114 = .ok (.pop, 1) := by decide +kernel
theorem dX7_executeObject_115 : decode cX7_executeObject 115 = .ok (.aload_n 0, 1) := by decide +kernel
theorem dX7_executeObject_116 : decode cX7_executeObject 116 = .ok (.iconst 0, 1) := by decide +kernel
theorem dX7_executeObject_117 : decode cX7_executeObject 117 = .ok (.invokevirtual 71, 3) := by decide +kernel
theorem dX7_executeObject_120 : decode cX7_executeObject 120 = .ok (.return_, 1) := by decide +kernel
theorem dX7_executeArray_0 : decode cX7_executeArray 0 = .ok (.iload_n 1, 1) := by decide +kernel
theorem dX7_executeArray_1 : decode cX7_executeArray 1 = .ok (.tableswitch 133 38 42 #[35, 50, 68, 86, 115], 35) := by decide +kernel
theorem dX7_executeArray_36 : decode cX7_executeArray 36 = .ok (.aload_n 0, 1) := by decide +kernel
theorem dX7_executeArray_37 : decode cX7_executeArray 37 = .ok (.iconst 0, 1) := by decide +kernel
theorem dX7_executeArray_38 : decode cX7_executeArray 38 = .ok (.invokevirtual 88, 3) := by decide +kernel
theorem dX7_executeArray_41 : decode cX7_executeArray 41 = .ok (.aload_n 0, 1) := by decide +kernel
theorem dX7_executeArray_42 : decode cX7_executeArray 42 = .ok (.iload_n 2, 1) := by decide +kernel
theorem dX7_executeArray_43 : decode cX7_executeArray 43 = .ok (.iconst 1, 1) := by decide +kernel
theorem dX7_executeArray_44 : decode cX7_executeArray 44 = .ok (.iadd, 1) := by decide +kernel
theorem dX7_executeArray_45 : decode cX7_executeArray 45 = .ok (.invokevirtual 71, 3) := by decide +kernel
theorem dX7_executeArray_48 : decode cX7_executeArray 48 = .ok (.goto 121, 3) := by decide +kernel
theorem dX7_executeArray_51 : decode cX7_executeArray 51 = .ok (.aload_n 0, 1) := by decide +kernel
theorem dX7_executeArray_52 : decode cX7_executeArray 52 = .ok (.iconst 0, 1) := by decide +kernel
theorem dX7_executeArray_53 : decode cX7_executeArray 53 = .ok (.invokevirtual 88, 3) := by decide +kernel
theorem dX7_executeArray_56 : decode cX7_executeArray 56 = .ok (.aload_n 0, 1) := by decide +kernel
theorem dX7_executeArray_57 : decode cX7_executeArray 57 = .ok (.iconst 1, 1) := by decide +kernel
theorem dX7_executeArray_58 : decode cX7_executeArray 58 = .ok (.invokevirtual 88, 3) := by decide +kernel
theorem dX7_executeArray_61 : decode cX7_executeArray 61 = .ok (.aload_n 0, 1) := by decide +kernel
theorem dX7_executeArray_62 : decode cX7_executeArray 62 = .ok (.iconst 0, 1) := by decide +kernel
theorem dX7_executeArray_63 : decode cX7_executeArray 63 = .ok (.invokevirtual 71, 3) := by decide +kernel
theorem dX7_executeArray_66 : decode cX7_executeArray 66 = .ok (.goto 103, 3) := by decide +kernel
theorem dX7_executeArray_69 : decode cX7_executeArray 69 = .ok (.aload_n 0, 1) := by decide +kernel
theorem dX7_executeArray_70 : decode cX7_executeArray 70 = .ok (.iconst 0, 1) := by decide +kernel
theorem dX7_executeArray_71 : decode cX7_executeArray 71 = .ok (.invokevirtual 88, 3) := by decide +kernel
theorem dX7_executeArray_74 : decode cX7_executeArray 74 = .ok (.aload_n 0, 1) := by decide +kernel
theorem dX7_executeArray_75 : decode cX7_executeArray 75 = .ok (.iconst 0, 1) := by decide +kernel
theorem dX7_executeArray_76 : decode cX7_executeArray 76 = .ok (.invokevirtual 88, 3) := by decide +kernel
theorem dX7_executeArray_79 : decode cX7_executeArray 79 = .ok (.aload_n 0, 1) := by decide +kernel
theorem dX7_executeArray_80 : decode cX7_executeArray 80 = .ok (.iconst 1, 1) := by decide +kernel
theorem dX7_executeArray_81 : decode cX7_executeArray 81 = .ok (.invokevirtual 88, 3) := by decide +kernel
theorem dX7_executeArray_84 : decode cX7_executeArray 84 = .ok (.goto 85, 3) := by decide +kernel
theorem dX7_executeArray_87 : decode cX7_executeArray 87 = .ok (.aload_n 0, 1) := by decide +kernel
theorem dX7_executeArray_88 : decode cX7_executeArray 88 = .ok (.iconst 0, 1) := by decide +kernel
theorem dX7_executeArray_89 : decode cX7_executeArray 89 = .ok (.invokevirtual 88, 3) := by decide +kernel
theorem dX7_executeArray_92 : decode cX7_executeArray 92 = .ok (.aload_n 0, 1) := by decide +kernel
theorem dX7_executeArray_93 : decode cX7_executeArray 93 = .ok (.invokevirtual 143, 3) := by decide +kernel
theorem dX7_executeArray_96 : decode cX7_executeArray 96 = .ok (.istore_n 3, 1) := by decide +kernel
theorem dX7_executeArray_97 : decode cX7_executeArray 97 = .ok (.aload_n 0, 1) := by decide +kernel
theorem dX7_executeArray_98 : decode cX7_executeArray 98 = .ok (.iload_n 3, 1) := by decide +kernel
theorem dX7_executeArray_99 : decode cX7_executeArray 99 = .ok (.iconst (-1), 1) := by decide +kernel
theorem dX7_executeArray_100 : decode cX7_executeArray 100 = .ok (.if_icmp .ne 7, 3) := by decide +kernel
theorem dX7_executeArray_103 : decode cX7_executeArray 103 = .ok (.iconst (-1), 1) := by decide +kernel
theorem dX7_executeArray_104 : decode cX7_executeArray 104 = .ok (.goto 6, 3) := by decide +kernel
theorem dX7_executeArray_107 : decode cX7_executeArray 107 = .ok (.iload_n 3, 1) := by decide +kernel
theorem dX7_executeArray_108 : decode cX7_executeArray 108 = .ok (.iconst 1, 1) := by decide +kernel
theorem dX7_executeArray_109 : decode cX7_executeArray 109 = .ok (.isub, 1) := by decide +kernel
theorem dX7_executeArray_110 : decode cX7_executeArray 110 = .ok (.invokevirtual 71, 3) := by decide +kernel
theorem dX7_executeArray_113 : decode cX7_executeArray 113 = .ok (.goto 56, 3) := by decide +kernel
theorem dX7_executeArray_116 : decode cX7_executeArray 116 = .ok (.aload_n 0, 1) := by decide +kernel
theorem dX7_executeArray_117 : decode cX7_executeArray 117 = .ok (.invokevirtual 118, 3) := by decide +kernel
theorem dX7_executeArray_120 : decode cX7_executeArray 120 = .ok (.pop, 1) := by decide +kernel
theorem dX7_executeArray_121 : decode cX7_executeArray 121 = .ok (.aload_n 0, 1) := by decide +kernel
theorem dX7_executeArray_122 : decode cX7_executeArray 122 = .ok (.iconst 0, 1) := by decide +kernel
theorem dX7_executeArray_123 : decode cX7_executeArray 123 = .ok (.invokevirtual 88, 3) := by decide +kernel
theorem dX7_executeArray_126 : decode cX7_executeArray 126 = .ok (.aload_n 0, 1) := by decide +kernel
theorem dX7_executeArray_127 : decode cX7_executeArray 127 = .ok (.invokevirtual 143, 3) := by decide +kernel
theorem dX7_executeArray_130 : decode cX7_executeArray 130 = .ok (.pop, 1) := by decide +kernel
theorem dX7_executeArray_131 : decode cX7_executeArray 131 = .ok (.goto 38, 3) := by decide +kernel
theorem dX7_executeArray_134 : decode cX7_executeArray 134 = .ok (.aload_n 0, 1) := by decide +kernel
theorem dX7_executeArray_135 : decode cX7_executeArray 135 = .ok (.invokevirtual 104, 3) := by decide +kernel
theorem dX7_executeArray_138 : decode cX7_executeArray 138 = .ok (.istore 4, 2) := by decide +kernel
theorem dX7_executeArray_140 : decode cX7_executeArray 140 = .ok (.aload_n 0, 1) := by decide +kernel
theorem dX7_executeArray_141 : decode cX7_executeArray 141 = .ok (.iload 4, 2) := by decide +kernel
theorem dX7_executeArray_143 : decode cX7_executeArray 143 = .ok (.iconst (-1), 1) := by decide +kernel
theorem dX7_executeArray_144 : decode cX7_executeArray 144 = .ok (.if_icmp .eq 11, 3) := by decide +kernel
theorem dX7_executeArray_147 : decode cX7_executeArray 147 = .ok (.iload 4, 2) := by decide +kernel
theorem dX7_executeArray_149 : decode cX7_executeArray 149 = .ok (.invokestatic 146, 3) := by decide +kernel
theorem dX7_executeArray_152 : decode cX7_executeArray 152 = .ok (.ifCond .eq 7, 3) := by decide +kernel
theorem dX7_executeArray_155 : decode cX7_executeArray 155 = .ok (.iconst 1, 1) := by decide +kernel
theorem dX7_executeArray_156 : decode cX7_executeArray 156 = .ok (.goto 4, 3) := by decide +kernel
theorem dX7_executeArray_159 : decode cX7_executeArray 159 = .ok (.iconst 0, 1) := by decide +kernel
theorem dX7_executeArray_160 : decode cX7_executeArray 160 = .ok (.iconst 4, 1) := by decide +kernel
theorem dX7_executeArray_161 : decode cX7_executeArray 161 = .ok (.invokevirtual 80, 3) := by decide +kernel
theorem dX7_executeArray_164 : decode cX7_executeArray 164 = .ok (.aload_n 0, 1) := by decide +kernel
theorem dX7_executeArray_165 : decode cX7_executeArray 165 = .ok (.iconst 0, 1) := by decide +kernel
theorem dX7_executeArray_166 : decode cX7_executeArray 166 = .ok (.invokevirtual 71, 3) := by decide +kernel
theorem dX7_executeArray_169 : decode cX7_executeArray 169 = .ok (.return_, 1) := by decide +kernel
theorem dX7_create_0 : decode cX7_create 0 = .ok (.aload_n 0, 1) := by decide +kernel
theorem dX7_create_1 : decode cX7_create 1 = .ok (.aload_n 0, 1) := by decide +kernel
theorem dX7_create_2 : decode cX7_create 2 = .ok (.getfield 26, 3) := by decide +kernel
theorem dX7_create_5 : decode cX7_create 5 = .ok (.iload_n 1, 1) := by decide +kernel
theorem dX7_create_6 : decode cX7_create 6 = .ok (.invokevirtual 149, 3) := by decide +kernel
theorem dX7_create_9 : decode cX7_create 9 = .ok (.ifCond .ne 7, 3) := by decide +kernel
theorem dX7_create_12 : decode cX7_create 12 = .ok (.iconst 1, 1) := by decide +kernel
theorem dX7_create_13 : decode cX7_create 13 = .ok (.goto 4, 3) := by decide +kernel
theorem dX7_create_16 : decode cX7_create 16 = .ok (.iconst 0, 1) := by decide +kernel
theorem dX7_create_17 : decode cX7_create 17 = .ok (.iconst 4, 1) := by decide +kernel
theorem dX7_create_18 : decode cX7_create 18 = .ok (.invokevirtual 80, 3) := by decide +kernel
theorem dX7_create_21 : decode cX7_create 21 = .ok (.aload_n 0, 1) := by decide +kernel
theorem dX7_create_22 : decode cX7_create 22 = .ok (.getfield 26, 3) := by decide +kernel
theorem dX7_create_25 : decode cX7_create 25 = .ok (.iload_n 1, 1) := by decide +kernel
theorem dX7_create_26 : decode cX7_create 26 = .ok (.bipush (-2), 2) := by decide +kernel
theorem dX7_create_28 : decode cX7_create 28 = .ok (.invokevirtual 152, 3) := by decide +kernel
theorem dX7_create_31 : decode cX7_create 31 = .ok (.aload_n 0, 1) := by decide +kernel
theorem dX7_create_32 : decode cX7_create 32 = .ok (.iload_n 1, 1) := by decide +kernel
theorem dX7_create_33 : decode cX7_create 33 = .ok (.invokevirtual 71, 3) := by decide +kernel
theorem dX7_create_36 : decode cX7_create 36 = .ok (.return_, 1) := by decide +kernel
theorem dX7_call_0 : decode cX7_call 0 = .ok (.aload_n 0, 1) := by decide +kernel
theorem dX7_call_1 : decode cX7_call 1 = .ok (.getfield 15, 3) := by decide +kernel
theorem dX7_call_4 : decode cX7_call 4 = .ok (.getfield 155, 3) := by decide +kernel
theorem dX7_call_7 : decode cX7_call 7 = .ok (.iload_n 2, 1) := by decide +kernel
theorem dX7_call_8 : decode cX7_call 8 = .ok (.iaload, 1) := by decide +kernel
theorem dX7_call_9 : decode cX7_call 9 = .ok (.iconst 1, 1) := by decide +kernel
theorem dX7_call_10 : decode cX7_call 10 = .ok (.isub, 1) := by decide +kernel
theorem dX7_call_11 : decode cX7_call 11 = .ok (.istore_n 3, 1) := by decide +kernel
theorem dX7_call_12 : decode cX7_call 12 = .ok (.iload_n 3, 1) := by decide +kernel
theorem dX7_call_13 : decode cX7_call 13 = .ok (.ifCond .lt 22, 3) := by decide +kernel
theorem dX7_call_16 : decode cX7_call 16 = .ok (.aload_n 0, 1) := by decide +kernel
theorem dX7_call_17 : decode cX7_call 17 = .ok (.aload_n 0, 1) := by decide +kernel
theorem dX7_call_18 : decode cX7_call 18 = .ok (.getfield 15, 3) := by decide +kernel
theorem dX7_call_21 : decode cX7_call 21 = .ok (.iload_n 2, 1) := by decide +kernel
theorem dX7_call_22 : decode cX7_call 22 = .ok (.iload_n 3, 1) := by decide +kernel
theorem dX7_call_23 : decode cX7_call 23 = .ok (.invokevirtual 158, 3) := by decide +kernel
theorem dX7_call_26 : decode cX7_call 26 = .ok (.invokevirtual 88, 3) := by decide +kernel
theorem dX7_call_29 : decode cX7_call 29 = .ok (.iinc 3 (-1), 3) := by decide +kernel
theorem dX7_call_32 : decode cX7_call 32 = .ok (.goto (-20), 3) := by decide +kernel
theorem dX7_call_35 : decode cX7_call 35 = .ok (.iload_n 1, 1) := by decide +kernel
theorem dX7_call_36 : decode cX7_call 36 = .ok (.bipush 35, 2) := by decide +kernel
theorem dX7_call_38 : decode cX7_call 38 = .ok (.if_icmp .ne 17, 3) := by decide +kernel
theorem dX7_call_41 : decode cX7_call 41 = .ok (.aload_n 0, 1) := by decide +kernel
theorem dX7_call_42 : decode cX7_call 42 = .ok (.aload_n 0, 1) := by decide +kernel
theorem dX7_call_43 : decode cX7_call 43 = .ok (.getfield 15, 3) := by decide +kernel
theorem dX7_call_46 : decode cX7_call 46 = .ok (.getfield 162, 3) := by decide +kernel
theorem dX7_call_49 : decode cX7_call 49 = .ok (.iload_n 2, 1) := by decide +kernel
theorem dX7_call_50 : decode cX7_call 50 = .ok (.iaload, 1) := by decide +kernel
theorem dX7_call_51 : decode cX7_call 51 = .ok (.invokevirtual 165, 3) := by decide +kernel
theorem dX7_call_54 : decode cX7_call 54 = .ok (.return_, 1) := by decide +kernel
