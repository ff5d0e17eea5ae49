theorem dX11_dropDraft_7 : decode cX11_dropDraft 7 = .ok (.aload_n 0, 1) := by decide +kernel
theorem dX11_dropDraft_8 : decode cX11_dropDraft 8 = .ok (.iconst 0, 1) := by decide +kernel
theorem dX11_dropDraft_9 : decode cX11_dropDraft 9 = .ok (.putfield 40, 3) := by decide +kernel
theorem dX11_dropDraft_12 : decode cX11_dropDraft 12 = .ok (.return_, 1) := by decide +kernel
theorem dX11_adoptFrames_0 : decode cX11_adoptFrames 0 = .ok (.aload_n 0, 1) := by decide +kernel
theorem dX11_adoptFrames_1 : decode cX11_adoptFrames 1 = .ok (.getfield 47, 3) := by decide +kernel
theorem dX11_adoptFrames_4 : decode cX11_adoptFrames 4 = .ok (.getfield 248, 3) := by decide +kernel
theorem dX11_adoptFrames_7 : decode cX11_adoptFrames 7 = .ok (.ifCond .ne 13, 3) := by decide +kernel
theorem dX11_adoptFrames_10 : decode cX11_adoptFrames 10 = .ok (.new 90, 3) := by decide +kernel
theorem dX11_adoptFrames_13 : decode cX11_adoptFrames 13 = .ok (.dup, 1) := by decide +kernel
theorem dX11_adoptFrames_14 : decode cX11_adoptFrames 14 = .ok (.ldc 249, 2) := by decide +kernel
theorem dX11_adoptFrames_16 : decode cX11_adoptFrames 16 = .ok (.invokespecial 94, 3) := by decide +kernel
theorem dX11_adoptFrames_19 : decode cX11_adoptFrames 19 = .ok (.athrow, 1) := by decide +kernel
theorem dX11_adoptFrames_20 : decode cX11_adoptFrames 20 = .ok (.aload_n 0, 1) := by decide +kernel
theorem dX11_adoptFrames_21 : decode cX11_adoptFrames 21 = .ok (.getfield 51, 3) := by decide +kernel
theorem dX11_adoptFrames_24 : decode cX11_adoptFrames 24 = .ok (.invokevirtual 182, 3) := by decide +kernel
theorem dX11_adoptFrames_27 : decode cX11_adoptFrames 27 = .ok (.aload_n 0, 1) := by decide +kernel
theorem dX11_adoptFrames_28 : decode cX11_adoptFrames 28 = .ok (.invokevirtual 251, 3) := by decide +kernel
theorem dX11_adoptFrames_31 : decode cX11_adoptFrames 31 = .ok (.aload_n 0, 1) := by decide +kernel
theorem dX11_adoptFrames_32 : decode cX11_adoptFrames 32 = .ok (.invokevirtual 254, 3) := by decide +kernel
theorem dX11_adoptFrames_35 : decode cX11_adoptFrames 35 = .ok (.aload_n 0, 1) := by decide +kernel
theorem dX11_adoptFrames_36 : decode cX11_adoptFrames 36 = .ok (.invokevirtual 257, 3) := by decide +kernel
theorem dX11_adoptFrames_39 : decode cX11_adoptFrames 39 = .ok (.aload_n 0, 1) := by decide +kernel
theorem dX11_adoptFrames_40 : decode cX11_adoptFrames 40 = .ok (.getfield 51, 3) := by decide +kernel
theorem dX11_adoptFrames_43 : decode cX11_adoptFrames 43 = .ok (.getfield 248, 3) := by decide +kernel
theorem dX11_adoptFrames_46 : decode cX11_adoptFrames 46 = .ok (.ireturn, 1) := by decide +kernel
theorem dX11_adoptAtJumps_0 : decode cX11_adoptAtJumps 0 = .ok (.iconst 0, 1) := by decide +kernel
theorem dX11_adoptAtJumps_1 : decode cX11_adoptAtJumps 1 = .ok (.istore_n 1, 1) := by decide +kernel
theorem dX11_adoptAtJumps_2 : decode cX11_adoptAtJumps 2 = .ok (.iload_n 1, 1) := by decide +kernel
theorem dX11_adoptAtJumps_3 : decode cX11_adoptAtJumps 3 = .ok (.aload_n 0, 1) := by decide +kernel
theorem dX11_adoptAtJumps_4 : decode cX11_adoptAtJumps 4 = .ok (.getfield 26, 3) := by decide +kernel
theorem dX11_adoptAtJumps_7 : decode cX11_adoptAtJumps 7 = .ok (.getfield 194, 3) := by decide +kernel
theorem dX11_adoptAtJumps_10 : decode cX11_adoptAtJumps 10 = .ok (.if_icmp .ge 48, 3) := by decide +kernel
theorem dX11_adoptAtJumps_13 : decode cX11_adoptAtJumps 13 = .ok (.aload_n 0, 1) := by decide +kernel
theorem dX11_adoptAtJumps_14 : decode cX11_adoptAtJumps 14 = .ok (.getfield 47, 3) := by decide +kernel
theorem dX11_adoptAtJumps_17 : decode cX11_adoptAtJumps 17 = .ok (.iload_n 1, 1) := by decide +kernel
theorem dX11_adoptAtJumps_18 : decode cX11_adoptAtJumps 18 = .ok (.invokevirtual 260, 3) := by decide +kernel
theorem dX11_adoptAtJumps_21 : decode cX11_adoptAtJumps 21 = .ok (.ifCond .eq 31, 3) := by decide +kernel
theorem dX11_adoptAtJumps_24 : decode cX11_adoptAtJumps 24 = .ok (.aload_n 0, 1) := by decide +kernel
theorem dX11_adoptAtJumps_25 : decode cX11_adoptAtJumps 25 = .ok (.getfield 26, 3) := by decide +kernel
theorem dX11_adoptAtJumps_28 : decode cX11_adoptAtJumps 28 = .ok (.getfield 263, 3) := by decide +kernel
theorem dX11_adoptAtJumps_31 : decode cX11_adoptAtJumps 31 = .ok (.iload_n 1, 1) := by decide +kernel
theorem dX11_adoptAtJumps_32 : decode cX11_adoptAtJumps 32 = .ok (.iaload, 1) := by decide +kernel
theorem dX11_adoptAtJumps_33 : decode cX11_adoptAtJumps 33 = .ok (.invokestatic 266, 3) := by decide +kernel
theorem dX11_adoptAtJumps_36 : decode cX11_adoptAtJumps 36 = .ok (.ifCond .eq 16, 3) := by decide +kernel
theorem dX11_adoptAtJumps_39 : decode cX11_adoptAtJumps 39 = .ok (.aload_n 0, 1) := by decide +kernel
theorem dX11_adoptAtJumps_40 : decode cX11_adoptAtJumps 40 = .ok (.aload_n 0, 1) := by decide +kernel
theorem dX11_adoptAtJumps_41 : decode cX11_adoptAtJumps 41 = .ok (.getfield 26, 3) := by decide +kernel
theorem dX11_adoptAtJumps_44 : decode cX11_adoptAtJumps 44 = .ok (.getfield 269, 3) := by decide +kernel
theorem dX11_adoptAtJumps_47 : decode cX11_adoptAtJumps 47 = .ok (.iload_n 1, 1) := by decide +kernel
theorem dX11_adoptAtJumps_48 : decode cX11_adoptAtJumps 48 = .ok (.iaload, 1) := by decide +kernel
theorem dX11_adoptAtJumps_49 : decode cX11_adoptAtJumps 49 = .ok (.invokevirtual 272, 3) := by decide +kernel
theorem dX11_adoptAtJumps_52 : decode cX11_adoptAtJumps 52 = .ok (.iinc 1 1, 3) := by decide +kernel
theorem dX11_adoptAtJumps_55 : decode cX11_adoptAtJumps 55 = .ok (.goto (-53), 3) := by decide +kernel
theorem dX11_adoptAtJumps_58 : decode cX11_adoptAtJumps 58 = .ok (.return_, 1) := by decide +kernel
theorem dX11_adoptAtHandlers_0 : decode cX11_adoptAtHandlers 0 = .ok (.iconst 0, 1) := by decide +kernel
theorem dX11_adoptAtHandlers_1 : decode cX11_adoptAtHandlers 1 = .ok (.istore_n 1, 1) := by decide +kernel
theorem dX11_adoptAtHandlers_2 : decode cX11_adoptAtHandlers 2 = .ok (.iload_n 1, 1) := by decide +kernel
theorem dX11_adoptAtHandlers_3 : decode cX11_adoptAtHandlers 3 = .ok (.aload_n 0, 1) := by decide +kernel
theorem dX11_adoptAtHandlers_4 : decode cX11_adoptAtHandlers 4 = .ok (.getfield 26, 3) := by decide +kernel
theorem dX11_adoptAtHandlers_7 : decode cX11_adoptAtHandlers 7 = .ok (.getfield 202, 3) := by decide +kernel
theorem dX11_adoptAtHandlers_10 : decode cX11_adoptAtHandlers 10 = .ok (.if_icmp .ge 64, 3) := by decide +kernel
theorem dX11_adoptAtHandlers_13 : decode cX11_adoptAtHandlers 13 = .ok (.iconst 0, 1) := by decide +kernel
theorem dX11_adoptAtHandlers_14 : decode cX11_adoptAtHandlers 14 = .ok (.istore_n 2, 1) := by decide +kernel
theorem dX11_adoptAtHandlers_15 : decode cX11_adoptAtHandlers 15 = .ok (.iload_n 2, 1) := by decide +kernel
theorem dX11_adoptAtHandlers_16 : decode cX11_adoptAtHandlers 16 = .ok (.aload_n 0, 1) := by decide +kernel
theorem dX11_adoptAtHandlers_17 : decode cX11_adoptAtHandlers 17 = .ok (.getfield 26, 3) := by decide +kernel
theorem dX11_adoptAtHandlers_20 : decode cX11_adoptAtHandlers 20 = .ok (.getfield 194, 3) := by decide +kernel
theorem dX11_adoptAtHandlers_23 : decode cX11_adoptAtHandlers 23 = .ok (.if_icmp .ge 45, 3) := by decide +kernel
theorem dX11_adoptAtHandlers_26 : decode cX11_adoptAtHandlers 26 = .ok (.aload_n 0, 1) := by decide +kernel
theorem dX11_adoptAtHandlers_27 : decode cX11_adoptAtHandlers 27 = .ok (.getfield 26, 3) := by decide +kernel
theorem dX11_adoptAtHandlers_30 : decode cX11_adoptAtHandlers 30 = .ok (.iload_n 1, 1) := by decide +kernel
theorem dX11_adoptAtHandlers_31 : decode cX11_adoptAtHandlers 31 = .ok (.iload_n 2, 1) := by decide +kernel
theorem dX11_adoptAtHandlers_32 : decode cX11_adoptAtHandlers 32 = .ok (.invokevirtual 276, 3) := by decide +kernel
theorem dX11_adoptAtHandlers_35 : decode cX11_adoptAtHandlers 35 = .ok (.ifCond .eq 27, 3) := by decide +kernel
theorem dX11_adoptAtHandlers_38 : decode cX11_adoptAtHandlers 38 = .ok (.aload_n 0, 1) := by decide +kernel
theorem dX11_adoptAtHandlers_39 : decode cX11_adoptAtHandlers 39 = .ok (.getfield 47, 3) := by decide +kernel
theorem dX11_adoptAtHandlers_42 : decode cX11_adoptAtHandlers 42 = .ok (.iload_n 2, 1) := by decide +kernel
theorem dX11_adoptAtHandlers_43 : decode cX11_adoptAtHandlers 43 = .ok (.invokevirtual 260, 3) := by decide +kernel
theorem dX11_adoptAtHandlers_46 : decode cX11_adoptAtHandlers 46 = .ok (.ifCond .eq 16, 3) := by decide +kernel
theorem dX11_adoptAtHandlers_49 : decode cX11_adoptAtHandlers 49 = .ok (.aload_n 0, 1) := by decide +kernel
theorem dX11_adoptAtHandlers_50 : decode cX11_adoptAtHandlers 50 = .ok (.aload_n 0, 1) := by decide +kernel
theorem dX11_adoptAtHandlers_51 : decode cX11_adoptAtHandlers 51 = .ok (.getfield 26, 3) := by decide +kernel
theorem dX11_adoptAtHandlers_54 : decode cX11_adoptAtHandlers 54 = .ok (.getfield 279, 3) := by decide +kernel
theorem dX11_adoptAtHandlers_57 : decode cX11_adoptAtHandlers 57 = .ok (.iload_n 1, 1) := by decide +kernel
theorem dX11_adoptAtHandlers_58 : decode cX11_adoptAtHandlers 58 = .ok (.iaload, 1) := by decide +kernel
theorem dX11_adoptAtHandlers_59 : decode cX11_adoptAtHandlers 59 = .ok (.invokevirtual 272, 3) := by decide +kernel
theorem dX11_adoptAtHandlers_62 : decode cX11_adoptAtHandlers 62 = .ok (.iinc 2 1, 3) := by decide +kernel
theorem dX11_adoptAtHandlers_65 : decode cX11_adoptAtHandlers 65 = .ok (.goto (-50), 3) := by decide +kernel
theorem dX11_adoptAtHandlers_68 : decode cX11_adoptAtHandlers 68 = .ok (.iinc 1 1, 3) := by decide +kernel
theorem dX11_adoptAtHandlers_71 : decode cX11_adoptAtHandlers 71 = .ok (.goto (-69), 3) := by decide +kernel
theorem dX11_adoptAtHandlers_74 : decode cX11_adoptAtHandlers 74 = .ok (.return_, 1) := by decide +kernel
theorem dX11_adoptBehindEnds_0 : decode cX11_adoptBehindEnds 0 = .ok (.iconst 1, 1) := by decide +kernel
theorem dX11_adoptBehindEnds_1 : decode cX11_adoptBehindEnds 1 = .ok (.istore_n 1, 1) := by decide +kernel
theorem dX11_adoptBehindEnds_2 : decode cX11_adoptBehindEnds 2 = .ok (.iload_n 1, 1) := by decide +kernel
theorem dX11_adoptBehindEnds_3 : decode cX11_adoptBehindEnds 3 = .ok (.aload_n 0, 1) := by decide +kernel
theorem dX11_adoptBehindEnds_4 : decode cX11_adoptBehindEnds 4 = .ok (.getfield 26, 3) := by decide +kernel
theorem dX11_adoptBehindEnds_7 : decode cX11_adoptBehindEnds 7 = .ok (.getfield 194, 3) := by decide +kernel
theorem dX11_adoptBehindEnds_10 : decode cX11_adoptBehindEnds 10 = .ok (.if_icmp .ge 31, 3) := by decide +kernel
theorem dX11_adoptBehindEnds_13 : decode cX11_adoptBehindEnds 13 = .ok (.aload_n 0, 1) := by decide +kernel
theorem dX11_adoptBehindEnds_14 : decode cX11_adoptBehindEnds 14 = .ok (.getfield 26, 3) := by decide +kernel
theorem dX11_adoptBehindEnds_17 : decode cX11_adoptBehindEnds 17 = .ok (.getfield 263, 3) := by decide +kernel
theorem dX11_adoptBehindEnds_20 : decode cX11_adoptBehindEnds 20 = .ok (.iload_n 1, 1) := by decide +kernel
theorem dX11_adoptBehindEnds_21 : decode cX11_adoptBehindEnds 21 = .ok (.iconst 1, 1) := by decide +kernel
theorem dX11_adoptBehindEnds_22 : decode cX11_adoptBehindEnds 22 = .ok (.isub, 1) := by decide +kernel
theorem dX11_adoptBehindEnds_23 : decode cX11_adoptBehindEnds 23 = .ok (.iaload, 1) := by decide +kernel
theorem dX11_adoptBehindEnds_24 : decode cX11_adoptBehindEnds 24 = .ok (.invokestatic 282, 3) := by decide +kernel
theorem dX11_adoptBehindEnds_27 : decode cX11_adoptBehindEnds 27 = .ok (.ifCond .ne 8, 3) := by decide +kernel
theorem dX11_adoptBehindEnds_30 : decode cX11_adoptBehindEnds 30 = .ok (.aload_n 0, 1) := by decide +kernel
theorem dX11_adoptBehindEnds_31 : decode cX11_adoptBehindEnds 31 = .ok (.iload_n 1, 1) := by decide +kernel
theorem dX11_adoptBehindEnds_32 : decode cX11_adoptBehindEnds 32 = .ok (.invokevirtual 272, 3) := by decide +kernel
theorem dX11_adoptBehindEnds_35 : decode cX11_adoptBehindEnds 35 = .ok (.iinc 1 1, 3) := by decide +kernel
theorem dX11_adoptBehindEnds_38 : decode cX11_adoptBehindEnds 38 = .ok (.goto (-36), 3) := by decide +kernel
theorem dX11_adoptBehindEnds_41 : decode cX11_adoptBehindEnds 41 = .ok (.return_, 1) := by decide +kernel
theorem dX11_adoptAt_0 : decode cX11_adoptAt 0 = .ok (.aload_n 0, 1) := by decide +kernel
theorem dX11_adoptAt_1 : decode cX11_adoptAt 1 = .ok (.getfield 47, 3) := by decide +kernel
theorem dX11_adoptAt_4 : decode cX11_adoptAt 4 = .ok (.iload_n 1, 1) := by decide +kernel
theorem dX11_adoptAt_5 : decode cX11_adoptAt 5 = .ok (.invokevirtual 260, 3) := by decide +kernel
theorem dX11_adoptAt_8 : decode cX11_adoptAt 8 = .ok (.ifCond .eq 20, 3) := by decide +kernel
theorem dX11_adoptAt_11 : decode cX11_adoptAt 11 = .ok (.aload_n 0, 1) := by decide +kernel
theorem dX11_adoptAt_12 : decode cX11_adoptAt 12 = .ok (.getfield 51, 3) := by decide +kernel
theorem dX11_adoptAt_15 : decode cX11_adoptAt 15 = .ok (.iload_n 1, 1) := by decide +kernel
theorem dX11_adoptAt_16 : decode cX11_adoptAt 16 = .ok (.aload_n 0, 1) := by decide +kernel
theorem dX11_adoptAt_17 : decode cX11_adoptAt 17 = .ok (.getfield 47, 3) := by decide +kernel
theorem dX11_adoptAt_20 : decode cX11_adoptAt 20 = .ok (.getfield 285, 3) := by decide +kernel
theorem dX11_adoptAt_23 : decode cX11_adoptAt 23 = .ok (.iload_n 1, 1) := by decide +kernel
theorem dX11_adoptAt_24 : decode cX11_adoptAt 24 = .ok (.aaload, 1) := by decide +kernel
theorem dX11_adoptAt_25 : decode cX11_adoptAt 25 = .ok (.invokevirtual 244, 3) := by decide +kernel
theorem dX11_adoptAt_28 : decode cX11_adoptAt 28 = .ok (.return_, 1) := by decide +kernel
theorem dX11_infer_0 : decode cX11_infer 0 = .ok (.aload_n 0, 1) := by decide +kernel
theorem dX11_infer_1 : decode cX11_infer 1 = .ok (.invokevirtual 289, 3) := by decide +kernel
theorem dX11_infer_4 : decode cX11_infer 4 = .ok (.aload_n 0, 1) := by decide +kernel
theorem dX11_infer_5 : decode cX11_infer 5 = .ok (.getfield 59, 3) := by decide +kernel
theorem dX11_infer_8 : decode cX11_infer 8 = .ok (.invokevirtual 292, 3) := by decide +kernel
theorem dX11_infer_11 : decode cX11_infer 11 = .ok (.istore_n 1, 1) := by decide +kernel
theorem dX11_infer_12 : decode cX11_infer 12 = .ok (.aload_n 0, 1) := by decide +kernel
theorem dX11_infer_13 : decode cX11_infer 13 = .ok (.aload_n 0, 1) := by decide +kernel
theorem dX11_infer_14 : decode cX11_infer 14 = .ok (.getfield 59, 3) := by decide +kernel
theorem dX11_infer_17 : decode cX11_infer 17 = .ok (.getfield 296, 3) := by decide +kernel
theorem dX11_infer_20 : decode cX11_infer 20 = .ok (.putfield 70, 3) := by decide +kernel
theorem dX11_infer_23 : decode cX11_infer 23 = .ok (.aload_n 0, 1) := by decide +kernel
theorem dX11_infer_24 : decode cX11_infer 24 = .ok (.aload_n 0, 1) := by decide +kernel
theorem dX11_infer_25 : decode cX11_infer 25 = .ok (.getfield 59, 3) := by decide +kernel
theorem dX11_infer_28 : decode cX11_infer 28 = .ok (.getfield 299, 3) := by decide +kernel
theorem dX11_infer_31 : decode cX11_infer 31 = .ok (.putfield 73, 3) := by decide +kernel
theorem dX11_infer_34 : decode cX11_infer 34 = .ok (.iload_n 1, 1) := by decide +kernel
theorem dX11_infer_35 : decode cX11_infer 35 = .ok (.ireturn, 1) := by decide +kernel
theorem dX11_check_0 : decode cX11_check 0 = .ok (.aload_n 0, 1) := by decide +kernel
theorem dX11_check_1 : decode cX11_check 1 = .ok (.invokevirtual 289, 3) := by decide +kernel
theorem dX11_check_4 : decode cX11_check 4 = .ok (.aload_n 0, 1) := by decide +kernel
theorem dX11_check_5 : decode cX11_check 5 = .ok (.getfield 66, 3) := by decide +kernel
theorem dX11_check_8 : decode cX11_check 8 = .ok (.invokevirtual 302, 3) := by decide +kernel
theorem dX11_check_11 : decode cX11_check 11 = .ok (.istore_n 1, 1) := by decide +kernel
theorem dX11_check_12 : decode cX11_check 12 = .ok (.aload_n 0, 1) := by decide +kernel
theorem dX11_check_13 : decode cX11_check 13 = .ok (.aload_n 0, 1) := by decide +kernel
theorem dX11_check_14 : decode cX11_check 14 = .ok (.getfield 66, 3) := by decide +kernel
theorem dX11_check_17 : decode cX11_check 17 = .ok (.getfield 303, 3) := by decide +kernel
theorem dX11_check_20 : decode cX11_check 20 = .ok (.putfield 70, 3) := by decide +kernel
theorem dX11_check_23 : decode cX11_check 23 = .ok (.aload_n 0, 1) := by decide +kernel
theorem dX11_check_24 : decode cX11_check 24 = .ok (.aload_n 0, 1) := by decide +kernel
theorem dX11_check_25 : decode cX11_check 25 = .ok (.getfield 66, 3) := by decide +kernel
theorem dX11_check_28 : decode cX11_check 28 = .ok (.getfield 304, 3) := by decide +kernel
theorem dX11_check_31 : decode cX11_check 31 = .ok (.putfield 73, 3) := by decide +kernel
theorem dX11_check_34 : decode cX11_check 34 = .ok (.iload_n 1, 1) := by decide +kernel
theorem dX11_check_35 : decode cX11_check 35 = .ok (.ireturn, 1) := by decide +kernel
theorem dX11_requireCode_0 : decode cX11_requireCode 0 = .ok (.aload_n 0, 1) := by decide +kernel
theorem dX11_requireCode_1 : decode cX11_requireCode 1 = .ok (.getfield 26, 3) := by decide +kernel
theorem dX11_requireCode_4 : decode cX11_requireCode 4 = .ok (.getfield 190, 3) := by decide +kernel
theorem dX11_requireCode_7 : decode cX11_requireCode 7 = .ok (.ifCond .ne 14, 3) := by decide +kernel
theorem dX11_requireCode_10 : decode cX11_requireCode 10 = .ok (.new 90, 3) := by decide +kernel
theorem dX11_requireCode_13 : decode cX11_requireCode 13 = .ok (.dup, 1) := by decide +kernel
theorem dX11_requireCode_14 : decode cX11_requireCode 14 = .ok (.ldc_w 305, 3) := by decide +kernel
theorem dX11_requireCode_17 : decode cX11_requireCode 17 = .ok (.invokespecial 94, 3) := by decide +kernel
theorem dX11_requireCode_20 : decode cX11_requireCode 20 = .ok (.athrow, 1) := by decide +kernel
theorem dX11_requireCode_21 : decode cX11_requireCode 21 = .ok (.return_, 1) := by decide +kernel
theorem dX11_errorPosition_0 : decode cX11_errorPosition 0 = .ok (.aload_n 0, 1) := by decide +kernel
theorem dX11_errorPosition_1 : decode cX11_errorPosition 1 = .ok (.getfield 70, 3) := by decide +kernel
theorem dX11_errorPosition_4 : decode cX11_errorPosition 4 = .ok (.ireturn, 1) := by decide +kernel
theorem dX11_visits_0 : decode cX11_visits 0 = .ok (.aload_n 0, 1) := by decide +kernel
theorem dX11_visits_1 : decode cX11_visits 1 = .ok (.getfield 73, 3) := by decide +kernel
theorem dX11_visits_4 : decode cX11_visits 4 = .ok (.ireturn, 1) := by decide +kernel
theorem dX11_hasFrame_0 : decode cX11_hasFrame 0 = .ok (.aload_n 0, 1) := by decide +kernel
theorem dX11_hasFrame_1 : decode cX11_hasFrame 1 = .ok (.iload_n 1, 1) := by decide +kernel
theorem dX11_hasFrame_2 : decode cX11_hasFrame 2 = .ok (.invokevirtual 307, 3) := by decide +kernel
theorem dX11_hasFrame_5 : decode cX11_hasFrame 5 = .ok (.aload_n 0, 1) := by decide +kernel
theorem dX11_hasFrame_6 : decode cX11_hasFrame 6 = .ok (.getfield 47, 3) := by decide +kernel
theorem dX11_hasFrame_9 : decode cX11_hasFrame 9 = .ok (.iload_n 1, 1) := by decide +kernel
theorem dX11_hasFrame_10 : decode cX11_hasFrame 10 = .ok (.invokevirtual 260, 3) := by decide +kernel
theorem dX11_hasFrame_13 : decode cX11_hasFrame 13 = .ok (.ireturn, 1) := by decide +kernel
theorem dX11_stackHeight_0 : decode cX11_stackHeight 0 = .ok (.aload_n 0, 1) := by decide +kernel
theorem dX11_stackHeight_1 : decode cX11_stackHeight 1 = .ok (.iload_n 1, 1) := by decide +kernel
theorem dX11_stackHeight_2 : decode cX11_stackHeight 2 = .ok (.invokevirtual 310, 3) := by decide +kernel
theorem dX11_stackHeight_5 : decode cX11_stackHeight 5 = .ok (.aload_n 0, 1) := by decide +kernel
theorem dX11_stackHeight_6 : decode cX11_stackHeight 6 = .ok (.getfield 47, 3) := by decide +kernel
theorem dX11_stackHeight_9 : decode cX11_stackHeight 9 = .ok (.getfield 285, 3) := by decide +kernel
theorem dX11_stackHeight_12 : decode cX11_stackHeight 12 = .ok (.iload_n 1, 1) := by decide +kernel
theorem dX11_stackHeight_13 : decode cX11_stackHeight 13 = .ok (.aaload, 1) := by decide +kernel
theorem dX11_stackHeight_14 : decode cX11_stackHeight 14 = .ok (.getfield 216, 3) := by decide +kernel
theorem dX11_stackHeight_17 : decode cX11_stackHeight 17 = .ok (.ireturn, 1) := by decide +kernel
theorem dX11_stackSlot_0 : decode cX11_stackSlot 0 = .ok (.aload_n 0, 1) := by decide +kernel
theorem dX11_stackSlot_1 : decode cX11_stackSlot 1 = .ok (.iload_n 1, 1) := by decide +kernel
theorem dX11_stackSlot_2 : decode cX11_stackSlot 2 = .ok (.invokevirtual 310, 3) := by decide +kernel
theorem dX11_stackSlot_5 : decode cX11_stackSlot 5 = .ok (.iload_n 2, 1) := by decide +kernel
theorem dX11_stackSlot_6 : decode cX11_stackSlot 6 = .ok (.ifCond .lt 19, 3) := by decide +kernel
theorem dX11_stackSlot_9 : decode cX11_stackSlot 9 = .ok (.iload_n 2, 1) := by decide +kernel
theorem dX11_stackSlot_10 : decode cX11_stackSlot 10 = .ok (.aload_n 0, 1) := by decide +kernel
theorem dX11_stackSlot_11 : decode cX11_stackSlot 11 = .ok (.getfield 47, 3) := by decide +kernel
theorem dX11_stackSlot_14 : decode cX11_stackSlot 14 = .ok (.getfield 285, 3) := by decide +kernel
theorem dX11_stackSlot_17 : decode cX11_stackSlot 17 = .ok (.iload_n 1, 1) := by decide +kernel
theorem dX11_stackSlot_18 : decode cX11_stackSlot 18 = .ok (.aaload, 1) := by decide +kernel
theorem dX11_stackSlot_19 : decode cX11_stackSlot 19 = .ok (.getfield 216, 3) := by decide +kernel
theorem dX11_stackSlot_22 : decode cX11_stackSlot 22 = .ok (.if_icmp .lt 14, 3) := by decide +kernel
theorem dX11_stackSlot_25 : decode cX11_stackSlot 25 = .ok (.new 313, 3) := by decide +kernel
theorem dX11_stackSlot_28 : decode cX11_stackSlot 28 = .ok (.dup, 1) := by decide +kernel
theorem dX11_stackSlot_29 : decode cX11_stackSlot 29 = .ok (.ldc_w 315, 3) := by decide +kernel
theorem dX11_stackSlot_32 : decode cX11_stackSlot 32 = .ok (.invokespecial 317, 3) := by decide +kernel
theorem dX11_stackSlot_35 : decode cX11_stackSlot 35 = .ok (.athrow, 1) := by decide +kernel
theorem dX11_stackSlot_36 : decode cX11_stackSlot 36 = .ok (.aload_n 0, 1) := by decide +kernel
theorem dX11_stackSlot_37 : decode cX11_stackSlot 37 = .ok (.getfield 47, 3) := by decide +kernel
theorem dX11_stackSlot_40 : decode cX11_stackSlot 40 = .ok (.getfield 285, 3) := by decide +kernel
theorem dX11_stackSlot_43 : decode cX11_stackSlot 43 = .ok (.iload_n 1, 1) := by decide +kernel
theorem dX11_stackSlot_44 : decode cX11_stackSlot 44 = .ok (.aaload, 1) := by decide +kernel
theorem dX11_stackSlot_45 : decode cX11_stackSlot 45 = .ok (.getfield 221, 3) := by decide +kernel
theorem dX11_stackSlot_48 : decode cX11_stackSlot 48 = .ok (.iload_n 2, 1) := by decide +kernel
theorem dX11_stackSlot_49 : decode cX11_stackSlot 49 = .ok (.iaload, 1) := by decide +kernel
theorem dX11_stackSlot_50 : decode cX11_stackSlot 50 = .ok (.ireturn, 1) := by decide +kernel
theorem dX11_localSlot_0 : decode cX11_localSlot 0 = .ok (.aload_n 0, 1) := by decide +kernel
theorem dX11_localSlot_1 : decode cX11_localSlot 1 = .ok (.iload_n 1, 1) := by decide +kernel
theorem dX11_localSlot_2 : decode cX11_localSlot 2 = .ok (.invokevirtual 310, 3) := by decide +kernel
theorem dX11_localSlot_5 : decode cX11_localSlot 5 = .ok (.iload_n 2, 1) := by decide +kernel
theorem dX11_localSlot_6 : decode cX11_localSlot 6 = .ok (.ifCond .lt 14, 3) := by decide +kernel
theorem dX11_localSlot_9 : decode cX11_localSlot 9 = .ok (.iload_n 2, 1) := by decide +kernel
theorem dX11_localSlot_10 : decode cX11_localSlot 10 = .ok (.aload_n 0, 1) := by decide +kernel
theorem dX11_localSlot_11 : decode cX11_localSlot 11 = .ok (.getfield 26, 3) := by decide +kernel
theorem dX11_localSlot_14 : decode cX11_localSlot 14 = .ok (.getfield 230, 3) := by decide +kernel
theorem dX11_localSlot_17 : decode cX11_localSlot 17 = .ok (.if_icmp .lt 14, 3) := by decide +kernel
theorem dX11_localSlot_20 : decode cX11_localSlot 20 = .ok (.new 313, 3) := by decide +kernel
theorem dX11_localSlot_23 : decode cX11_localSlot 23 = .ok (.dup, 1) := by decide +kernel
theorem dX11_localSlot_24 : decode cX11_localSlot 24 = .ok (.ldc_w 318, 3) := by decide +kernel
theorem dX11_localSlot_27 : decode cX11_localSlot 27 = .ok (.invokespecial 317, 3) := by decide +kernel
theorem dX11_localSlot_30 : decode cX11_localSlot 30 = .ok (.athrow, 1) := by decide +kernel
theorem dX11_localSlot_31 : decode cX11_localSlot 31 = .ok (.aload_n 0, 1) := by decide +kernel
theorem dX11_localSlot_32 : decode cX11_localSlot 32 = .ok (.getfield 47, 3) := by decide +kernel
theorem dX11_localSlot_35 : decode cX11_localSlot 35 = .ok (.getfield 285, 3) := by decide +kernel
theorem dX11_localSlot_38 : decode cX11_localSlot 38 = .ok (.iload_n 1, 1) := by decide +kernel
theorem dX11_localSlot_39 : decode cX11_localSlot 39 = .ok (.aaload, 1) := by decide +kernel
theorem dX11_localSlot_40 : decode cX11_localSlot 40 = .ok (.getfield 213, 3) := by decide +kernel
theorem dX11_localSlot_43 : decode cX11_localSlot 43 = .ok (.iload_n 2, 1) := by decide +kernel
theorem dX11_localSlot_44 : decode cX11_localSlot 44 = .ok (.iaload, 1) := by decide +kernel
theorem dX11_localSlot_45 : decode cX11_localSlot 45 = .ok (.ireturn, 1) := by decide +kernel
theorem dX11_isMarked_0 : decode cX11_isMarked 0 = .ok (.aload_n 0, 1) := by decide +kernel
theorem dX11_isMarked_1 : decode cX11_isMarked 1 = .ok (.iload_n 1, 1) := by decide +kernel
theorem dX11_isMarked_2 : decode cX11_isMarked 2 = .ok (.invokevirtual 310, 3) := by decide +kernel
theorem dX11_isMarked_5 : decode cX11_isMarked 5 = .ok (.aload_n 0, 1) := by decide +kernel
theorem dX11_isMarked_6 : decode cX11_isMarked 6 = .ok (.getfield 47, 3) := by decide +kernel
theorem dX11_isMarked_9 : decode cX11_isMarked 9 = .ok (.getfield 285, 3) := by decide +kernel
theorem dX11_isMarked_12 : decode cX11_isMarked 12 = .ok (.iload_n 1, 1) := by decide +kernel
theorem dX11_isMarked_13 : decode cX11_isMarked 13 = .ok (.aaload, 1) := by decide +kernel
theorem dX11_isMarked_14 : decode cX11_isMarked 14 = .ok (.getfield 241, 3) := by decide +kernel
theorem dX11_isMarked_17 : decode cX11_isMarked 17 = .ok (.ireturn, 1) := by decide +kernel
theorem dX11_requireIndex_0 : decode cX11_requireIndex 0 = .ok (.aload_n 0, 1) := by decide +kernel
theorem dX11_requireIndex_1 : decode cX11_requireIndex 1 = .ok (.getfield 26, 3) := by decide +kernel
theorem dX11_requireIndex_4 : decode cX11_requireIndex 4 = .ok (.iload_n 1, 1) := by decide +kernel
theorem dX11_requireIndex_5 : decode cX11_requireIndex 5 = .ok (.invokevirtual 224, 3) := by decide +kernel
theorem dX11_requireIndex_8 : decode cX11_requireIndex 8 = .ok (.ifCond .ne 13, 3) := by decide +kernel
theorem dX11_requireIndex_11 : decode cX11_requireIndex 11 = .ok (.new 167, 3) := by decide +kernel
theorem dX11_requireIndex_14 : decode cX11_requireIndex 14 = .ok (.dup, 1) := by decide +kernel
theorem dX11_requireIndex_15 : decode cX11_requireIndex 15 = .ok (.ldc 188, 2) := by decide +kernel
theorem dX11_requireIndex_17 : decode cX11_requireIndex 17 = .ok (.invokespecial 171, 3) := by decide +kernel
theorem dX11_requireIndex_20 : decode cX11_requireIndex 20 = .ok (.athrow, 1) := by decide +kernel
theorem dX11_requireIndex_21 : decode cX11_requireIndex 21 = .ok (.return_, 1) := by decide +kernel
theorem dX11_requireFrame_0 : decode cX11_requireFrame 0 = .ok (.aload_n 0, 1) := by decide +kernel
theorem dX11_requireFrame_1 : decode cX11_requireFrame 1 = .ok (.iload_n 1, 1) := by decide +kernel
theorem dX11_requireFrame_2 : decode cX11_requireFrame 2 = .ok (.invokevirtual 307, 3) := by decide +kernel
theorem dX11_requireFrame_5 : decode cX11_requireFrame 5 = .ok (.aload_n 0, 1) := by decide +kernel
theorem dX11_requireFrame_6 : decode cX11_requireFrame 6 = .ok (.getfield 47, 3) := by decide +kernel
theorem dX11_requireFrame_9 : decode cX11_requireFrame 9 = .ok (.iload_n 1, 1) := by decide +kernel
theorem dX11_requireFrame_10 : decode cX11_requireFrame 10 = .ok (.invokevirtual 260, 3) := by decide +kernel
theorem dX11_requireFrame_13 : decode cX11_requireFrame 13 = .ok (.ifCond .ne 14, 3) := by decide +kernel
theorem dX11_requireFrame_16 : decode cX11_requireFrame 16 = .ok (.new 90, 3) := by decide +kernel
theorem dX11_requireFrame_19 : decode cX11_requireFrame 19 = .ok (.dup, 1) := by decide +kernel
theorem dX11_requireFrame_20 : decode cX11_requireFrame 20 = .ok (.ldc_w 320, 3) := by decide +kernel
theorem dX11_requireFrame_23 : decode cX11_requireFrame 23 = .ok (.invokespecial 94, 3) := by decide +kernel
theorem dX11_requireFrame_26 : decode cX11_requireFrame 26 = .ok (.athrow, 1) := by decide +kernel
theorem dX11_requireFrame_27 : decode cX11_requireFrame 27 = .ok (.return_, 1) := by decide +kernel
theorem dX11_digest_0 : decode cX11_digest 0 = .ok (.ldc2_w 322, 3) := by decide +kernel
theorem dX11_digest_3 : decode cX11_digest 3 = .ok (.lstore_n 1, 1) := by decide +kernel
theorem dX11_digest_4 : decode cX11_digest 4 = .ok (.lload_n 1, 1) := by decide +kernel
theorem dX11_digest_5 : decode cX11_digest 5 = .ok (.ldc2_w 324, 3) := by decide +kernel
theorem dX11_digest_8 : decode cX11_digest 8 = .ok (.lmul, 1) := by decide +kernel
theorem dX11_digest_9 : decode cX11_digest 9 = .ok (.aload_n 0, 1) := by decide +kernel
theorem dX11_digest_10 : decode cX11_digest 10 = .ok (.getfield 10, 3) := by decide +kernel
theorem dX11_digest_13 : decode cX11_digest 13 = .ok (.getfield 87, 3) := by decide +kernel
theorem dX11_digest_16 : decode cX11_digest 16 = .ok (.i2l, 1) := by decide +kernel
theorem dX11_digest_17 : decode cX11_digest 17 = .ok (.ladd, 1) := by decide +kernel
theorem dX11_digest_18 : decode cX11_digest 18 = .ok (.lstore_n 1, 1) := by decide +kernel
theorem dX11_digest_19 : decode cX11_digest 19 = .ok (.lload_n 1, 1) := by decide +kernel
theorem dX11_digest_20 : decode cX11_digest 20 = .ok (.ldc2_w 324, 3) := by decide +kernel
theorem dX11_digest_23 : decode cX11_digest 23 = .ok (.lmul, 1) := by decide +kernel
theorem dX11_digest_24 : decode cX11_digest 24 = .ok (.aload_n 0, 1) := by decide +kernel
theorem dX11_digest_25 : decode cX11_digest 25 = .ok (.getfield 19, 3) := by decide +kernel
theorem dX11_digest_28 : decode cX11_digest 28 = .ok (.getfield 104, 3) := by decide +kernel
theorem dX11_digest_31 : decode cX11_digest 31 = .ok (.i2l, 1) := by decide +kernel
theorem dX11_digest_32 : decode cX11_digest 32 = .ok (.ladd, 1) := by decide +kernel
theorem dX11_digest_33 : decode cX11_digest 33 = .ok (.lstore_n 1, 1) := by decide +kernel
theorem dX11_digest_34 : decode cX11_digest 34 = .ok (.lload_n 1, 1) := by decide +kernel
theorem dX11_digest_35 : decode cX11_digest 35 = .ok (.ldc2_w 324, 3) := by decide +kernel
theorem dX11_digest_38 : decode cX11_digest 38 = .ok (.lmul, 1) := by decide +kernel
theorem dX11_digest_39 : decode cX11_digest 39 = .ok (.aload_n 0, 1) := by decide +kernel
theorem dX11_digest_40 : decode cX11_digest 40 = .ok (.getfield 19, 3) := by decide +kernel
theorem dX11_digest_43 : decode cX11_digest 43 = .ok (.getfield 136, 3) := by decide +kernel
theorem dX11_digest_46 : decode cX11_digest 46 = .ok (.i2l, 1) := by decide +kernel
theorem dX11_digest_47 : decode cX11_digest 47 = .ok (.ladd, 1) := by decide +kernel
theorem dX11_digest_48 : decode cX11_digest 48 = .ok (.lstore_n 1, 1) := by decide +kernel
theorem dX11_digest_49 : decode cX11_digest 49 = .ok (.lload_n 1, 1) := by decide +kernel
theorem dX11_digest_50 : decode cX11_digest 50 = .ok (.ldc2_w 324, 3) := by decide +kernel
theorem dX11_digest_53 : decode cX11_digest 53 = .ok (.lmul, 1) := by decide +kernel
theorem dX11_digest_54 : decode cX11_digest 54 = .ok (.aload_n 0, 1) := by decide +kernel
theorem dX11_digest_55 : decode cX11_digest 55 = .ok (.getfield 26, 3) := by decide +kernel
theorem dX11_digest_58 : decode cX11_digest 58 = .ok (.getfield 194, 3) := by decide +kernel
theorem dX11_digest_61 : decode cX11_digest 61 = .ok (.i2l, 1) := by decide +kernel
theorem dX11_digest_62 : decode cX11_digest 62 = .ok (.ladd, 1) := by decide +kernel
theorem dX11_digest_63 : decode cX11_digest 63 = .ok (.lstore_n 1, 1) := by decide +kernel
theorem dX11_digest_64 : decode cX11_digest 64 = .ok (.lload_n 1, 1) := by decide +kernel
theorem dX11_digest_65 : decode cX11_digest 65 = .ok (.ldc2_w 324, 3) := by decide +kernel
theorem dX11_digest_68 : decode cX11_digest 68 = .ok (.lmul, 1) := by decide +kernel
theorem dX11_digest_69 : decode cX11_digest 69 = .ok (.aload_n 0, 1) := by decide +kernel
theorem dX11_digest_70 : decode cX11_digest 70 = .ok (.getfield 26, 3) := by decide +kernel
theorem dX11_digest_73 : decode cX11_digest 73 = .ok (.getfield 202, 3) := by decide +kernel
theorem dX11_digest_76 : decode cX11_digest 76 = .ok (.i2l, 1) := by decide +kernel
theorem dX11_digest_77 : decode cX11_digest 77 = .ok (.ladd, 1) := by decide +kernel
theorem dX11_digest_78 : decode cX11_digest 78 = .ok (.lstore_n 1, 1) := by decide +kernel
theorem dX11_digest_79 : decode cX11_digest 79 = .ok (.lload_n 1, 1) := by decide +kernel
theorem dX11_digest_80 : decode cX11_digest 80 = .ok (.ldc2_w 324, 3) := by decide +kernel
theorem dX11_digest_83 : decode cX11_digest 83 = .ok (.lmul, 1) := by decide +kernel
theorem dX11_digest_84 : decode cX11_digest 84 = .ok (.aload_n 0, 1) := by decide +kernel
theorem dX11_digest_85 : decode cX11_digest 85 = .ok (.getfield 51, 3) := by decide +kernel
theorem dX11_digest_88 : decode cX11_digest 88 = .ok (.getfield 248, 3) := by decide +kernel
theorem dX11_digest_91 : decode cX11_digest 91 = .ok (.i2l, 1) := by decide +kernel
theorem dX11_digest_92 : decode cX11_digest 92 = .ok (.ladd, 1) := by decide +kernel
theorem dX11_digest_93 : decode cX11_digest 93 = .ok (.lstore_n 1, 1) := by decide +kernel
theorem dX11_digest_94 : decode cX11_digest 94 = .ok (.iconst 0, 1) := by decide +kernel
theorem dX11_digest_95 : decode cX11_digest 95 = .ok (.istore_n 3, 1) := by decide +kernel
theorem dX11_digest_96 : decode cX11_digest 96 = .ok (.iload_n 3, 1) := by decide +kernel
theorem dX11_digest_97 : decode cX11_digest 97 = .ok (.aload_n 0, 1) := by decide +kernel
theorem dX11_digest_98 : decode cX11_digest 98 = .ok (.getfield 26, 3) := by decide +kernel
theorem dX11_digest_101 : decode cX11_digest 101 = .ok (.getfield 194, 3) := by decide +kernel
theorem dX11_digest_104 : decode cX11_digest 104 = .ok (.if_icmp .ge 50, 3) := by decide +kernel
theorem dX11_digest_107 : decode cX11_digest 107 = .ok (.aload_n 0, 1) := by decide +kernel
theorem dX11_digest_108 : decode cX11_digest 108 = .ok (.getfield 47, 3) := by decide +kernel
theorem dX11_digest_111 : decode cX11_digest 111 = .ok (.iload_n 3, 1) := by decide +kernel
theorem dX11_digest_112 : decode cX11_digest 112 = .ok (.invokevirtual 260, 3) := by decide +kernel
theorem dX11_digest_115 : decode cX11_digest 115 = .ok (.ifCond .eq 27, 3) := by decide +kernel
theorem dX11_digest_118 : decode cX11_digest 118 = .ok (.aload_n 0, 1) := by decide +kernel
theorem dX11_digest_119 : decode cX11_digest 119 = .ok (.lload_n 1, 1) := by decide +kernel
theorem dX11_digest_120 : decode cX11_digest 120 = .ok (.ldc2_w 324, 3) := by decide +kernel
theorem dX11_digest_123 : decode cX11_digest 123 = .ok (.lmul, 1) := by decide +kernel
theorem dX11_digest_124 : decode cX11_digest 124 = .ok (.lconst 1, 1) := by decide +kernel
theorem dX11_digest_125 : decode cX11_digest 125 = .ok (.ladd, 1) := by decide +kernel
theorem dX11_digest_126 : decode cX11_digest 126 = .ok (.aload_n 0, 1) := by decide +kernel
theorem dX11_digest_127 : decode cX11_digest 127 = .ok (.getfield 47, 3) := by decide +kernel
theorem dX11_digest_130 : decode cX11_digest 130 = .ok (.getfield 285, 3) := by decide +kernel
theorem dX11_digest_133 : decode cX11_digest 133 = .ok (.iload_n 3, 1) := by decide +kernel
theorem dX11_digest_134 : decode cX11_digest 134 = .ok (.aaload, 1) := by decide +kernel
theorem dX11_digest_135 : decode cX11_digest 135 = .ok (.invokevirtual 326, 3) := by decide +kernel
theorem dX11_digest_138 : decode cX11_digest 138 = .ok (.lstore_n 1, 1) := by decide +kernel
theorem dX11_digest_139 : decode cX11_digest 139 = .ok (.goto 9, 3) := by decide +kernel
theorem dX11_digest_142 : decode cX11_digest 142 = .ok (.lload_n 1, 1) := by decide +kernel
theorem dX11_digest_143 : decode cX11_digest 143 = .ok (.ldc2_w 324, 3) := by decide +kernel
theorem dX11_digest_146 : decode cX11_digest 146 = .ok (.lmul, 1) := by decide +kernel
theorem dX11_digest_147 : decode cX11_digest 147 = .ok (.lstore_n 1, 1) := by decide +kernel
theorem dX11_digest_148 : decode cX11_digest 148 = .ok (.iinc 3 1, 3) := by decide +kernel
theorem dX11_digest_151 : decode cX11_digest 151 = .ok (.goto (-55), 3) := by decide +kernel
theorem dX11_digest_154 : decode cX11_digest 154 = .ok (.lload_n 1, 1) := by decide +kernel
theorem dX11_digest_155 : decode cX11_digest 155 = .ok (.lreturn, 1) := by decide +kernel
theorem dX11_addFrame_0 : decode cX11_addFrame 0 = .ok (.lload_n 1, 1) := by decide +kernel
theorem dX11_addFrame_1 : decode cX11_addFrame 1 = .ok (.ldc2_w 324, 3) := by decide +kernel
theorem dX11_addFrame_4 : decode cX11_addFrame 4 = .ok (.lmul, 1) := by decide +kernel
theorem dX11_addFrame_5 : decode cX11_addFrame 5 = .ok (.aload_n 3, 1) := by decide +kernel
theorem dX11_addFrame_6 : decode cX11_addFrame 6 = .ok (.getfield 216, 3) := by decide +kernel
theorem dX11_addFrame_9 : decode cX11_addFrame 9 = .ok (.i2l, 1) := by decide +kernel
theorem dX11_addFrame_10 : decode cX11_addFrame 10 = .ok (.ladd, 1) := by decide +kernel
theorem dX11_addFrame_11 : decode cX11_addFrame 11 = .ok (.lstore 4, 2) := by decide +kernel
theorem dX11_addFrame_13 : decode cX11_addFrame 13 = .ok (.iconst 0, 1) := by decide +kernel
theorem dX11_addFrame_14 : decode cX11_addFrame 14 = .ok (.istore 6, 2) := by decide +kernel
theorem dX11_addFrame_16 : decode cX11_addFrame 16 = .ok (.iload 6, 2) := by decide +kernel
theorem dX11_addFrame_18 : decode cX11_addFrame 18 = .ok (.aload_n 0, 1) := by decide +kernel
theorem dX11_addFrame_19 : decode cX11_addFrame 19 = .ok (.getfield 26, 3) := by decide +kernel
theorem dX11_addFrame_22 : decode cX11_addFrame 22 = .ok (.getfield 230, 3) := by decide +kernel
theorem dX11_addFrame_25 : decode cX11_addFrame 25 = .ok (.if_icmp .ge 26, 3) := by decide +kernel
theorem dX11_addFrame_28 : decode cX11_addFrame 28 = .ok (.lload 4, 2) := by decide +kernel
theorem dX11_addFrame_30 : decode cX11_addFrame 30 = .ok (.ldc2_w 324, 3) := by decide +kernel
theorem dX11_addFrame_33 : decode cX11_addFrame 33 = .ok (.lmul, 1) := by decide +kernel
theorem dX11_addFrame_34 : decode cX11_addFrame 34 = .ok (.aload_n 3, 1) := by decide +kernel
theorem dX11_addFrame_35 : decode cX11_addFrame 35 = .ok (.getfield 213, 3) := by decide +kernel
theorem dX11_addFrame_38 : decode cX11_addFrame 38 = .ok (.iload 6, 2) := by decide +kernel
theorem dX11_addFrame_40 : decode cX11_addFrame 40 = .ok (.iaload, 1) := by decide +kernel
theorem dX11_addFrame_41 : decode cX11_addFrame 41 = .ok (.i2l, 1) := by decide +kernel
theorem dX11_addFrame_42 : decode cX11_addFrame 42 = .ok (.ladd, 1) := by decide +kernel
theorem dX11_addFrame_43 : decode cX11_addFrame 43 = .ok (.lstore 4, 2) := by decide +kernel
theorem dX11_addFrame_45 : decode cX11_addFrame 45 = .ok (.iinc 6 1, 3) := by decide +kernel
theorem dX11_addFrame_48 : decode cX11_addFrame 48 = .ok (.goto (-32), 3) := by decide +kernel
theorem dX11_addFrame_51 : decode cX11_addFrame 51 = .ok (.iconst 0, 1) := by decide +kernel
theorem dX11_addFrame_52 : decode cX11_addFrame 52 = .ok (.istore 6, 2) := by decide +kernel
theorem dX11_addFrame_54 : decode cX11_addFrame 54 = .ok (.iload 6, 2) := by decide +kernel
theorem dX11_addFrame_56 : decode cX11_addFrame 56 = .ok (.aload_n 3, 1) := by decide +kernel
theorem dX11_addFrame_57 : decode cX11_addFrame 57 = .ok (.getfield 216, 3) := by decide +kernel
theorem dX11_addFrame_60 : decode cX11_addFrame 60 = .ok (.if_icmp .ge 26, 3) := by decide +kernel
theorem dX11_addFrame_63 : decode cX11_addFrame 63 = .ok (.lload 4, 2) := by decide +kernel
theorem dX11_addFrame_65 : decode cX11_addFrame 65 = .ok (.ldc2_w 324, 3) := by decide +kernel
theorem dX11_addFrame_68 : decode cX11_addFrame 68 = .ok (.lmul, 1) := by decide +kernel
theorem dX11_addFrame_69 : decode cX11_addFrame 69 = .ok (.aload_n 3, 1) := by decide +kernel
theorem dX11_addFrame_70 : decode cX11_addFrame 70 = .ok (.getfield 221, 3) := by decide +kernel
theorem dX11_addFrame_73 : decode cX11_addFrame 73 = .ok (.iload 6, 2) := by decide +kernel
theorem dX11_addFrame_75 : decode cX11_addFrame 75 = .ok (.iaload, 1) := by decide +kernel
theorem dX11_addFrame_76 : decode cX11_addFrame 76 = .ok (.i2l, 1) := by decide +kernel
theorem dX11_addFrame_77 : decode cX11_addFrame 77 = .ok (.ladd, 1) := by decide +kernel
theorem dX11_addFrame_78 : decode cX11_addFrame 78 = .ok (.lstore 4, 2) := by decide +kernel
theorem dX11_addFrame_80 : decode cX11_addFrame 80 = .ok (.iinc 6 1, 3) := by decide +kernel
theorem dX11_addFrame_83 : decode cX11_addFrame 83 = .ok (.goto (-29), 3) := by decide +kernel
theorem dX11_addFrame_86 : decode cX11_addFrame 86 = .ok (.lload 4, 2) := by decide +kernel
theorem dX11_addFrame_88 : decode cX11_addFrame 88 = .ok (.ldc2_w 324, 3) := by decide +kernel
theorem dX11_addFrame_91 : decode cX11_addFrame 91 = .ok (.lmul, 1) := by decide +kernel
theorem dX11_addFrame_92 : decode cX11_addFrame 92 = .ok (.aload_n 3, 1) := by decide +kernel
theorem dX11_addFrame_93 : decode cX11_addFrame 93 = .ok (.getfield 241, 3) := by decide +kernel
theorem dX11_addFrame_96 : decode cX11_addFrame 96 = .ok (.ifCond .eq 7, 3) := by decide +kernel
theorem dX11_addFrame_99 : decode cX11_addFrame 99 = .ok (.iconst 1, 1) := by decide +kernel
theorem dX11_addFrame_100 : decode cX11_addFrame 100 = .ok (.goto 4, 3) := by decide +kernel
theorem dX11_addFrame_103 : decode cX11_addFrame 103 = .ok (.iconst 0, 1) := by decide +kernel
theorem dX11_addFrame_104 : decode cX11_addFrame 104 = .ok (.i2l, 1) := by decide +kernel
theorem dX11_addFrame_105 : decode cX11_addFrame 105 = .ok (.ladd, 1) := by decide +kernel
theorem dX11_addFrame_106 : decode cX11_addFrame 106 = .ok (.lreturn, 1) := by decide +kernel
theorem dX11_isReferenceType_0 : decode cX11_isReferenceType 0 = .ok (.iload_n 0, 1) := by decide +kernel
theorem dX11_isReferenceType_1 : decode cX11_isReferenceType 1 = .ok (.ifCond .lt 17, 3) := by decide +kernel
theorem dX11_isReferenceType_4 : decode cX11_isReferenceType 4 = .ok (.iload_n 0, 1) := by decide +kernel
theorem dX11_isReferenceType_5 : decode cX11_isReferenceType 5 = .ok (.ifCond .eq 13, 3) := by decide +kernel
theorem dX11_isReferenceType_8 : decode cX11_isReferenceType 8 = .ok (.iload_n 0, 1) := by decide +kernel
theorem dX11_isReferenceType_9 : decode cX11_isReferenceType 9 = .ok (.bipush 8, 2) := by decide +kernel
theorem dX11_isReferenceType_11 : decode cX11_isReferenceType 11 = .ok (.if_icmp .eq 7, 3) := by decide +kernel
theorem dX11_isReferenceType_14 : decode cX11_isReferenceType 14 = .ok (.iconst 1, 1) := by decide +kernel
theorem dX11_isReferenceType_15 : decode cX11_isReferenceType 15 = .ok (.goto 4, 3) := by decide +kernel
theorem dX11_isReferenceType_18 : decode cX11_isReferenceType 18 = .ok (.iconst 0, 1) := by decide +kernel
theorem dX11_isReferenceType_19 : decode cX11_isReferenceType 19 = .ok (.ireturn, 1) := by decide +kernel
theorem dX11_isReference_0 : decode cX11_isReference 0 = .ok (.iload_n 0, 1) := by decide +kernel
theorem dX11_isReference_1 : decode cX11_isReference 1 = .ok (.iconst (-1), 1) := by decide +kernel
theorem dX11_isReference_2 : decode cX11_isReference 2 = .ok (.if_icmp .eq 10, 3) := by decide +kernel
theorem dX11_isReference_5 : decode cX11_isReference 5 = .ok (.iload_n 0, 1) := by decide +kernel
theorem dX11_isReference_6 : decode cX11_isReference 6 = .ok (.invokestatic 330, 3) := by decide +kernel
theorem dX11_isReference_9 : decode cX11_isReference 9 = .ok (.ifCond .eq 7, 3) := by decide +kernel
theorem dX11_isReference_12 : decode cX11_isReference 12 = .ok (.iconst 1, 1) := by decide +kernel
theorem dX11_isReference_13 : decode cX11_isReference 13 = .ok (.goto 4, 3) := by decide +kernel
theorem dX11_isReference_16 : decode cX11_isReference 16 = .ok (.iconst 0, 1) := by decide +kernel
theorem dX11_isReference_17 : decode cX11_isReference 17 = .ok (.ireturn, 1) := by decide +kernel
theorem dX11_slotsOf_0 : decode cX11_slotsOf 0 = .ok (.iload_n 0, 1) := by decide +kernel
theorem dX11_slotsOf_1 : decode cX11_slotsOf 1 = .ok (.bipush 8, 2) := by decide +kernel
theorem dX11_slotsOf_3 : decode cX11_slotsOf 3 = .ok (.if_icmp .ne 7, 3) := by decide +kernel
theorem dX11_slotsOf_6 : decode cX11_slotsOf 6 = .ok (.iconst 2, 1) := by decide +kernel
theorem dX11_slotsOf_7 : decode cX11_slotsOf 7 = .ok (.goto 4, 3) := by decide +kernel
theorem dX11_slotsOf_10 : decode cX11_slotsOf 10 = .ok (.iconst 1, 1) := by decide +kernel
theorem dX11_slotsOf_11 : decode cX11_slotsOf 11 = .ok (.ireturn, 1) := by decide +kernel
theorem dX0_init_0 : decode cX0_init 0 = .ok (.aload_n 0, 1) := by decide +kernel
theorem dX0_init_1 : decode cX0_init 1 = .ok (.invokespecial 3, 3) := by decide +kernel
theorem dX0_init_4 : decode cX0_init 4 = .ok (.aload_n 0, 1) := by decide +kernel
theorem dX0_init_5 : decode cX0_init 5 = .ok (.new 9, 3) := by decide +kernel
theorem dX0_init_8 : decode cX0_init 8 = .ok (.dup, 1) := by decide +kernel
theorem dX0_init_9 : decode cX0_init 9 = .ok (.invokespecial 11, 3) := by decide +kernel
theorem dX0_init_12 : decode cX0_init 12 = .ok (.putfield 12, 3) := by decide +kernel
theorem dX0_init_15 : decode cX0_init 15 = .ok (.aload_n 0, 1) := by decide +kernel
theorem dX0_init_16 : decode cX0_init 16 = .ok (.new 9, 3) := by decide +kernel
theorem dX0_init_19 : decode cX0_init 19 = .ok (.dup, 1) := by decide +kernel
theorem dX0_init_20 : decode cX0_init 20 = .ok (.invokespecial 11, 3) := by decide +kernel
theorem dX0_init_23 : decode cX0_init 23 = .ok (.putfield 18, 3) := by decide +kernel
theorem dX0_init_26 : decode cX0_init 26 = .ok (.aload_n 0, 1) := by decide +kernel
theorem dX0_init_27 : decode cX0_init 27 = .ok (.aload_n 1, 1) := by decide +kernel
theorem dX0_init_28 : decode cX0_init 28 = .ok (.putfield 21, 3) := by decide +kernel
theorem dX0_init_31 : decode cX0_init 31 = .ok (.aload_n 0, 1) := by decide +kernel
theorem dX0_init_32 : decode cX0_init 32 = .ok (.aload_n 2, 1) := by decide +kernel
theorem dX0_init_33 : decode cX0_init 33 = .ok (.putfield 25, 3) := by decide +kernel
theorem dX0_init_36 : decode cX0_init 36 = .ok (.aload_n 0, 1) := by decide +kernel
theorem dX0_init_37 : decode cX0_init 37 = .ok (.aload_n 3, 1) := by decide +kernel
theorem dX0_init_38 : decode cX0_init 38 = .ok (.putfield 29, 3) := by decide +kernel
theorem dX0_init_41 : decode cX0_init 41 = .ok (.aload_n 0, 1) := by decide +kernel
theorem dX0_init_42 : decode cX0_init 42 = .ok (.new 33, 3) := by decide +kernel
theorem dX0_init_45 : decode cX0_init 45 = .ok (.dup, 1) := by decide +kernel
theorem dX0_init_46 : decode cX0_init 46 = .ok (.aload_n 1, 1) := by decide +kernel
theorem dX0_init_47 : decode cX0_init 47 = .ok (.aload_n 2, 1) := by decide +kernel
theorem dX0_init_48 : decode cX0_init 48 = .ok (.aload_n 3, 1) := by decide +kernel
theorem dX0_init_49 : decode cX0_init 49 = .ok (.invokespecial 35, 3) := by decide +kernel
theorem dX0_init_52 : decode cX0_init 52 = .ok (.putfield 38, 3) := by decide +kernel
theorem dX0_init_55 : decode cX0_init 55 = .ok (.aload_n 0, 1) := by decide +kernel
theorem dX0_init_56 : decode cX0_init 56 = .ok (.new 42, 3) := by decide +kernel
theorem dX0_init_59 : decode cX0_init 59 = .ok (.dup, 1) := by decide +kernel
theorem dX0_init_60 : decode cX0_init 60 = .ok (.aload_n 1, 1) := by decide +kernel
theorem dX0_init_61 : decode cX0_init 61 = .ok (.aload_n 2, 1) := by decide +kernel
theorem dX0_init_62 : decode cX0_init 62 = .ok (.aload_n 3, 1) := by decide +kernel
theorem dX0_init_63 : decode cX0_init 63 = .ok (.invokespecial 44, 3) := by decide +kernel
theorem dX0_init_66 : decode cX0_init 66 = .ok (.putfield 45, 3) := by decide +kernel
theorem dX0_init_69 : decode cX0_init 69 = .ok (.aload_n 0, 1) := by decide +kernel
theorem dX0_init_70 : decode cX0_init 70 = .ok (.iconst (-1), 1) := by decide +kernel
theorem dX0_init_71 : decode cX0_init 71 = .ok (.putfield 49, 3) := by decide +kernel
theorem dX0_init_74 : decode cX0_init 74 = .ok (.aload_n 0, 1) := by decide +kernel
theorem dX0_init_75 : decode cX0_init 75 = .ok (.iconst 0, 1) := by decide +kernel
theorem dX0_init_76 : decode cX0_init 76 = .ok (.putfield 53, 3) := by decide +kernel
theorem dX0_init_79 : decode cX0_init 79 = .ok (.return_, 1) := by decide +kernel
theorem dX0_examine_0 : decode cX0_examine 0 = .ok (.aload_n 0, 1) := by decide +kernel
theorem dX0_examine_1 : decode cX0_examine 1 = .ok (.getfield 38, 3) := by decide +kernel
theorem dX0_examine_4 : decode cX0_examine 4 = .ok (.invokevirtual 56, 3) := by decide +kernel
theorem dX0_examine_7 : decode cX0_examine 7 = .ok (.istore_n 1, 1) := by decide +kernel
theorem dX0_examine_8 : decode cX0_examine 8 = .ok (.aload_n 0, 1) := by decide +kernel
theorem dX0_examine_9 : decode cX0_examine 9 = .ok (.aload_n 0, 1) := by decide +kernel
theorem dX0_examine_10 : decode cX0_examine 10 = .ok (.getfield 38, 3) := by decide +kernel
theorem dX0_examine_13 : decode cX0_examine 13 = .ok (.getfield 60, 3) := by decide +kernel
theorem dX0_examine_16 : decode cX0_examine 16 = .ok (.putfield 49, 3) := by decide +kernel
theorem dX0_examine_19 : decode cX0_examine 19 = .ok (.aload_n 0, 1) := by decide +kernel
theorem dX0_examine_20 : decode cX0_examine 20 = .ok (.iconst 0, 1) := by decide +kernel
theorem dX0_examine_21 : decode cX0_examine 21 = .ok (.putfield 53, 3) := by decide +kernel
theorem dX0_examine_24 : decode cX0_examine 24 = .ok (.iload_n 1, 1) := by decide +kernel
theorem dX0_examine_25 : decode cX0_examine 25 = .ok (.ireturn, 1) := by decide +kernel
theorem dX0_makeFirstFrame_0 : decode cX0_makeFirstFrame 0 = .ok (.aload_n 1, 1) := by decide +kernel
theorem dX0_makeFirstFrame_1 : decode cX0_makeFirstFrame 1 = .ok (.invokevirtual 61, 3) := by decide +kernel
theorem dX0_makeFirstFrame_4 : decode cX0_makeFirstFrame 4 = .ok (.aload_n 0, 1) := by decide +kernel
theorem dX0_makeFirstFrame_5 : decode cX0_makeFirstFrame 5 = .ok (.getfield 29, 3) := by decide +kernel
theorem dX0_makeFirstFrame_8 : decode cX0_makeFirstFrame 8 = .ok (.getfield 64, 3) := by decide +kernel
theorem dX0_makeFirstFrame_11 : decode cX0_makeFirstFrame 11 = .ok (.istore_n 2, 1) := by decide +kernel
theorem dX0_makeFirstFrame_12 : decode cX0_makeFirstFrame 12 = .ok (.aload_n 0, 1) := by decide +kernel
theorem dX0_makeFirstFrame_13 : decode cX0_makeFirstFrame 13 = .ok (.getfield 25, 3) := by decide +kernel
theorem dX0_makeFirstFrame_16 : decode cX0_makeFirstFrame 16 = .ok (.getfield 69, 3) := by decide +kernel
theorem dX0_makeFirstFrame_19 : decode cX0_makeFirstFrame 19 = .ok (.iload_n 2, 1) := by decide +kernel
theorem dX0_makeFirstFrame_20 : decode cX0_makeFirstFrame 20 = .ok (.iaload, 1) := by decide +kernel
theorem dX0_makeFirstFrame_21 : decode cX0_makeFirstFrame 21 = .ok (.istore_n 3, 1) := by decide +kernel
theorem dX0_makeFirstFrame_22 : decode cX0_makeFirstFrame 22 = .ok (.iconst 0, 1) := by decide +kernel
theorem dX0_makeFirstFrame_23 : decode cX0_makeFirstFrame 23 = .ok (.istore 4, 2) := by decide +kernel
theorem dX0_makeFirstFrame_25 : decode cX0_makeFirstFrame 25 = .ok (.aload_n 0, 1) := by decide +kernel
theorem dX0_makeFirstFrame_26 : decode cX0_makeFirstFrame 26 = .ok (.getfield 25, 3) := by decide +kernel
theorem dX0_makeFirstFrame_29 : decode cX0_makeFirstFrame 29 = .ok (.getfield 75, 3) := by decide +kernel
theorem dX0_makeFirstFrame_32 : decode cX0_makeFirstFrame 32 = .ok (.iload_n 2, 1) := by decide +kernel
theorem dX0_makeFirstFrame_33 : decode cX0_makeFirstFrame 33 = .ok (.iaload, 1) := by decide +kernel
theorem dX0_makeFirstFrame_34 : decode cX0_makeFirstFrame 34 = .ok (.iconst 1, 1) := by decide +kernel
theorem dX0_makeFirstFrame_35 : decode cX0_makeFirstFrame 35 = .ok (.if_icmp .eq 57, 3) := by decide +kernel
theorem dX0_makeFirstFrame_38 : decode cX0_makeFirstFrame 38 = .ok (.aload_n 0, 1) := by decide +kernel
theorem dX0_makeFirstFrame_39 : decode cX0_makeFirstFrame 39 = .ok (.getfield 25, 3) := by decide +kernel
theorem dX0_makeFirstFrame_42 : decode cX0_makeFirstFrame 42 = .ok (.getfield 75, 3) := by decide +kernel
theorem dX0_makeFirstFrame_45 : decode cX0_makeFirstFrame 45 = .ok (.iload_n 2, 1) := by decide +kernel
theorem dX0_makeFirstFrame_46 : decode cX0_makeFirstFrame 46 = .ok (.iaload, 1) := by decide +kernel
theorem dX0_makeFirstFrame_47 : decode cX0_makeFirstFrame 47 = .ok (.iconst 2, 1) := by decide +kernel
theorem dX0_makeFirstFrame_48 : decode cX0_makeFirstFrame 48 = .ok (.if_icmp .ne 12, 3) := by decide +kernel
theorem dX0_makeFirstFrame_51 : decode cX0_makeFirstFrame 51 = .ok (.iload_n 3, 1) := by decide +kernel
theorem dX0_makeFirstFrame_52 : decode cX0_makeFirstFrame 52 = .ok (.iconst 2, 1) := by decide +kernel
theorem dX0_makeFirstFrame_53 : decode cX0_makeFirstFrame 53 = .ok (.if_icmp .eq 7, 3) := by decide +kernel
theorem dX0_makeFirstFrame_56 : decode cX0_makeFirstFrame 56 = .ok (.iconst 1, 1) := by decide +kernel
theorem dX0_makeFirstFrame_57 : decode cX0_makeFirstFrame 57 = .ok (.goto 4, 3) := by decide +kernel
theorem dX0_makeFirstFrame_60 : decode cX0_makeFirstFrame 60 = .ok (.iconst 0, 1) := by decide +kernel
theorem dX0_makeFirstFrame_61 : decode cX0_makeFirstFrame 61 = .ok (.istore 5, 2) := by decide +kernel
theorem dX0_makeFirstFrame_63 : decode cX0_makeFirstFrame 63 = .ok (.aload_n 1, 1) := by decide +kernel
theorem dX0_makeFirstFrame_64 : decode cX0_makeFirstFrame 64 = .ok (.getfield 78, 3) := by decide +kernel
theorem dX0_makeFirstFrame_67 : decode cX0_makeFirstFrame 67 = .ok (.iconst 0, 1) := by decide +kernel
theorem dX0_makeFirstFrame_68 : decode cX0_makeFirstFrame 68 = .ok (.iload 5, 2) := by decide +kernel
theorem dX0_makeFirstFrame_70 : decode cX0_makeFirstFrame 70 = .ok (.ifCond .eq 8, 3) := by decide +kernel
theorem dX0_makeFirstFrame_73 : decode cX0_makeFirstFrame 73 = .ok (.bipush (-4), 2) := by decide +kernel
theorem dX0_makeFirstFrame_75 : decode cX0_makeFirstFrame 75 = .ok (.goto 7, 3) := by decide +kernel
theorem dX0_makeFirstFrame_78 : decode cX0_makeFirstFrame 78 = .ok (.bipush 8, 2) := by decide +kernel
theorem dX0_makeFirstFrame_80 : decode cX0_makeFirstFrame 80 = .ok (.iload_n 3, 1) := by decide +kernel
theorem dX0_makeFirstFrame_81 : decode cX0_makeFirstFrame 81 = .ok (.imul, 1) := by decide +kernel
theorem dX0_makeFirstFrame_82 : decode cX0_makeFirstFrame 82 = .ok (.iastore, 1) := by decide +kernel
theorem dX0_makeFirstFrame_83 : decode cX0_makeFirstFrame 83 = .ok (.aload_n 1, 1) := by decide +kernel
theorem dX0_makeFirstFrame_84 : decode cX0_makeFirstFrame 84 = .ok (.iload 5, 2) := by decide +kernel
theorem dX0_makeFirstFrame_86 : decode cX0_makeFirstFrame 86 = .ok (.putfield 81, 3) := by decide +kernel
theorem dX0_makeFirstFrame_89 : decode cX0_makeFirstFrame 89 = .ok (.iconst 1, 1) := by decide +kernel
theorem dX0_makeFirstFrame_90 : decode cX0_makeFirstFrame 90 = .ok (.istore 4, 2) := by decide +kernel
theorem dX0_makeFirstFrame_92 : decode cX0_makeFirstFrame 92 = .ok (.iconst 0, 1) := by decide +kernel
theorem dX0_makeFirstFrame_93 : decode cX0_makeFirstFrame 93 = .ok (.istore 5, 2) := by decide +kernel
theorem dX0_makeFirstFrame_95 : decode cX0_makeFirstFrame 95 = .ok (.iload 5, 2) := by decide +kernel
theorem dX0_makeFirstFrame_97 : decode cX0_makeFirstFrame 97 = .ok (.aload_n 0, 1) := by decide +kernel
theorem dX0_makeFirstFrame_98 : decode cX0_makeFirstFrame 98 = .ok (.getfield 25, 3) := by decide +kernel
theorem dX0_makeFirstFrame_101 : decode cX0_makeFirstFrame 101 = .ok (.getfield 85, 3) := by decide +kernel
theorem dX0_makeFirstFrame_104 : decode cX0_makeFirstFrame 104 = .ok (.iload_n 2, 1) := by decide +kernel
theorem dX0_makeFirstFrame_105 : decode cX0_makeFirstFrame 105 = .ok (.iaload, 1) := by decide +kernel
theorem dX0_makeFirstFrame_106 : decode cX0_makeFirstFrame 106 = .ok (.if_icmp .ge 58, 3) := by decide +kernel
theorem dX0_makeFirstFrame_109 : decode cX0_makeFirstFrame 109 = .ok (.aload_n 0, 1) := by decide +kernel
theorem dX0_makeFirstFrame_110 : decode cX0_makeFirstFrame 110 = .ok (.getfield 25, 3) := by decide +kernel
theorem dX0_makeFirstFrame_113 : decode cX0_makeFirstFrame 113 = .ok (.iload_n 2, 1) := by decide +kernel
theorem dX0_makeFirstFrame_114 : decode cX0_makeFirstFrame 114 = .ok (.iload 5, 2) := by decide +kernel
theorem dX0_makeFirstFrame_116 : decode cX0_makeFirstFrame 116 = .ok (.invokevirtual 88, 3) := by decide +kernel
theorem dX0_makeFirstFrame_119 : decode cX0_makeFirstFrame 119 = .ok (.istore 6, 2) := by decide +kernel
theorem dX0_makeFirstFrame_121 : decode cX0_makeFirstFrame 121 = .ok (.aload_n 1, 1) := by decide +kernel
theorem dX0_makeFirstFrame_122 : decode cX0_makeFirstFrame 122 = .ok (.getfield 78, 3) := by decide +kernel
theorem dX0_makeFirstFrame_125 : decode cX0_makeFirstFrame 125 = .ok (.iload 4, 2) := by decide +kernel
theorem dX0_makeFirstFrame_127 : decode cX0_makeFirstFrame 127 = .ok (.iload 6, 2) := by decide +kernel
theorem dX0_makeFirstFrame_129 : decode cX0_makeFirstFrame 129 = .ok (.iastore, 1) := by decide +kernel
theorem dX0_makeFirstFrame_130 : decode cX0_makeFirstFrame 130 = .ok (.iload 6, 2) := by decide +kernel
theorem dX0_makeFirstFrame_132 : decode cX0_makeFirstFrame 132 = .ok (.bipush 8, 2) := by decide +kernel
theorem dX0_makeFirstFrame_134 : decode cX0_makeFirstFrame 134 = .ok (.if_icmp .ne 14, 3) := by decide +kernel
theorem dX0_makeFirstFrame_137 : decode cX0_makeFirstFrame 137 = .ok (.aload_n 1, 1) := by decide +kernel
theorem dX0_makeFirstFrame_138 : decode cX0_makeFirstFrame 138 = .ok (.getfield 78, 3) := by decide +kernel
theorem dX0_makeFirstFrame_141 : decode cX0_makeFirstFrame 141 = .ok (.iload 4, 2) := by decide +kernel
theorem dX0_makeFirstFrame_143 : decode cX0_makeFirstFrame 143 = .ok (.iconst 1, 1) := by decide +kernel
theorem dX0_makeFirstFrame_144 : decode cX0_makeFirstFrame 144 = .ok (.iadd, 1) := by decide +kernel
theorem dX0_makeFirstFrame_145 : decode cX0_makeFirstFrame 145 = .ok (.bipush (-3), 2) := by decide +kernel
theorem dX0_makeFirstFrame_147 : decode cX0_makeFirstFrame 147 = .ok (.iastore, 1) := by decide +kernel
theorem dX0_makeFirstFrame_148 : decode cX0_makeFirstFrame 148 = .ok (.iload 4, 2) := by decide +kernel
theorem dX0_makeFirstFrame_150 : decode cX0_makeFirstFrame 150 = .ok (.iload 6, 2) := by decide +kernel
theorem dX0_makeFirstFrame_152 : decode cX0_makeFirstFrame 152 = .ok (.invokestatic 92, 3) := by decide +kernel
theorem dX0_makeFirstFrame_155 : decode cX0_makeFirstFrame 155 = .ok (.iadd, 1) := by decide +kernel
theorem dX0_makeFirstFrame_156 : decode cX0_makeFirstFrame 156 = .ok (.istore 4, 2) := by decide +kernel
theorem dX0_makeFirstFrame_158 : decode cX0_makeFirstFrame 158 = .ok (.iinc 5 1, 3) := by decide +kernel
theorem dX0_makeFirstFrame_161 : decode cX0_makeFirstFrame 161 = .ok (.goto (-66), 3) := by decide +kernel
theorem dX0_makeFirstFrame_164 : decode cX0_makeFirstFrame 164 = .ok (.return_, 1) := by decide +kernel
theorem dX0_process_0 : decode cX0_process 0 = .ok (.aload_n 0, 1) := by decide +kernel
theorem dX0_process_1 : decode cX0_process 1 = .ok (.dup, 1) := by decide +kernel
theorem dX0_process_2 : decode cX0_process 2 = .ok (.getfield 53, 3) := by decide +kernel
theorem dX0_process_5 : decode cX0_process 5 = .ok (.iconst 1, 1) := by decide +kernel
theorem dX0_process_6 : decode cX0_process 6 = .ok (.iadd, 1) := by decide +kernel
theorem dX0_process_7 : decode cX0_process 7 = .ok (.putfield 53, 3) := by decide +kernel
theorem dX0_process_10 : decode cX0_process 10 = .ok (.aload_n 0, 1) := by decide +kernel
theorem dX0_process_11 : decode cX0_process 11 = .ok (.iload_n 1, 1) := by decide +kernel
theorem dX0_process_12 : decode cX0_process 12 = .ok (.invokevirtual 96, 3) := by decide +kernel
theorem dX0_process_15 : decode cX0_process 15 = .ok (.istore_n 2, 1) := by decide +kernel
theorem dX0_process_16 : decode cX0_process 16 = .ok (.iload_n 2, 1) := by decide +kernel
theorem dX0_process_17 : decode cX0_process 17 = .ok (.ifCond .ne 16, 3) := by decide +kernel
theorem dX0_process_20 : decode cX0_process 20 = .ok (.aload_n 0, 1) := by decide +kernel
theorem dX0_process_21 : decode cX0_process 21 = .ok (.getfield 45, 3) := by decide +kernel
theorem dX0_process_24 : decode cX0_process 24 = .ok (.iload_n 1, 1) := by decide +kernel
theorem dX0_process_25 : decode cX0_process 25 = .ok (.aload_n 0, 1) := by decide +kernel
theorem dX0_process_26 : decode cX0_process 26 = .ok (.getfield 12, 3) := by decide +kernel
theorem dX0_process_29 : decode cX0_process 29 = .ok (.invokevirtual 99, 3) := by decide +kernel
theorem dX0_process_32 : decode cX0_process 32 = .ok (.istore_n 2, 1) := by decide +kernel
theorem dX0_process_33 : decode cX0_process 33 = .ok (.iload_n 2, 1) := by decide +kernel
theorem dX0_process_34 : decode cX0_process 34 = .ok (.ifCond .ne 9, 3) := by decide +kernel
theorem dX0_process_37 : decode cX0_process 37 = .ok (.aload_n 0, 1) := by decide +kernel
theorem dX0_process_38 : decode cX0_process 38 = .ok (.iload_n 1, 1) := by decide +kernel
theorem dX0_process_39 : decode cX0_process 39 = .ok (.invokevirtual 103, 3) := by decide +kernel
theorem dX0_process_42 : decode cX0_process 42 = .ok (.istore_n 2, 1) := by decide +kernel
theorem dX0_process_43 : decode cX0_process 43 = .ok (.iload_n 2, 1) := by decide +kernel
theorem dX0_process_44 : decode cX0_process 44 = .ok (.ifCond .eq 8, 3) := by decide +kernel
theorem dX0_process_47 : decode cX0_process 47 = .ok (.aload_n 0, 1) := by decide +kernel
theorem dX0_process_48 : decode cX0_process 48 = .ok (.iload_n 1, 1) := by decide +kernel
theorem dX0_process_49 : decode cX0_process 49 = .ok (.putfield 49, 3) := by decide +kernel
theorem dX0_process_52 : decode cX0_process 52 = .ok (.iload_n 2, 1) := by decide +kernel
theorem dX0_process_53 : decode cX0_process 53 = .ok (.ireturn, 1) := by decide +kernel
theorem dX0_flowToHandlers_0 : decode cX0_flowToHandlers 0 = .ok (.iconst 0, 1) := by decide +kernel
theorem dX0_flowToHandlers_1 : decode cX0_flowToHandlers 1 = .ok (.istore_n 2, 1) := by decide +kernel
theorem dX0_flowToHandlers_2 : decode cX0_flowToHandlers 2 = .ok (.iload_n 2, 1) := by decide +kernel
theorem dX0_flowToHandlers_3 : decode cX0_flowToHandlers 3 = .ok (.aload_n 0, 1) := by decide +kernel
theorem dX0_flowToHandlers_4 : decode cX0_flowToHandlers 4 = .ok (.getfield 29, 3) := by decide +kernel
theorem dX0_flowToHandlers_7 : decode cX0_flowToHandlers 7 = .ok (.getfield 106, 3) := by decide +kernel
theorem dX0_flowToHandlers_10 : decode cX0_flowToHandlers 10 = .ok (.if_icmp .ge 79, 3) := by decide +kernel
theorem dX0_flowToHandlers_13 : decode cX0_flowToHandlers 13 = .ok (.aload_n 0, 1) := by decide +kernel
theorem dX0_flowToHandlers_14 : decode cX0_flowToHandlers 14 = .ok (.getfield 29, 3) := by decide +kernel
theorem dX0_flowToHandlers_17 : decode cX0_flowToHandlers 17 = .ok (.iload_n 2, 1) := by decide +kernel
theorem dX0_flowToHandlers_18 : decode cX0_flowToHandlers 18 = .ok (.iload_n 1, 1) := by decide +kernel
theorem dX0_flowToHandlers_19 : decode cX0_flowToHandlers 19 = .ok (.invokevirtual 109, 3) := by decide +kernel
theorem dX0_flowToHandlers_22 : decode cX0_flowToHandlers 22 = .ok (.ifCond .eq 61, 3) := by decide +kernel
theorem dX0_flowToHandlers_25 : decode cX0_flowToHandlers 25 = .ok (.aload_n 0, 1) := by decide +kernel
theorem dX0_flowToHandlers_26 : decode cX0_flowToHandlers 26 = .ok (.getfield 29, 3) := by decide +kernel
theorem dX0_flowToHandlers_29 : decode cX0_flowToHandlers 29 = .ok (.getfield 113, 3) := by decide +kernel
theorem dX0_flowToHandlers_32 : decode cX0_flowToHandlers 32 = .ok (.ifCond .ne 6, 3) := by decide +kernel
theorem dX0_flowToHandlers_35 : decode cX0_flowToHandlers 35 = .ok (.bipush 6, 2) := by decide +kernel
theorem dX0_flowToHandlers_37 : decode cX0_flowToHandlers 37 = .ok (.ireturn, 1) := by decide +kernel
theorem dX0_flowToHandlers_38 : decode cX0_flowToHandlers 38 = .ok (.aload_n 0, 1) := by decide +kernel
theorem dX0_flowToHandlers_39 : decode cX0_flowToHandlers 39 = .ok (.getfield 18, 3) := by decide +kernel
theorem dX0_flowToHandlers_42 : decode cX0_flowToHandlers 42 = .ok (.aload_n 0, 1) := by decide +kernel
theorem dX0_flowToHandlers_43 : decode cX0_flowToHandlers 43 = .ok (.getfield 12, 3) := by decide +kernel
theorem dX0_flowToHandlers_46 : decode cX0_flowToHandlers 46 = .ok (.aload_n 0, 1) := by decide +kernel
theorem dX0_flowToHandlers_47 : decode cX0_flowToHandlers 47 = .ok (.getfield 29, 3) := by decide +kernel
theorem dX0_flowToHandlers_50 : decode cX0_flowToHandlers 50 = .ok (.getfield 116, 3) := by decide +kernel
theorem dX0_flowToHandlers_53 : decode cX0_flowToHandlers 53 = .ok (.iload_n 2, 1) := by decide +kernel
theorem dX0_flowToHandlers_54 : decode cX0_flowToHandlers 54 = .ok (.iaload, 1) := by decide +kernel
theorem dX0_flowToHandlers_55 : decode cX0_flowToHandlers 55 = .ok (.invokevirtual 119, 3) := by decide +kernel
theorem dX0_flowToHandlers_58 : decode cX0_flowToHandlers 58 = .ok (.aload_n 0, 1) := by decide +kernel
theorem dX0_flowToHandlers_59 : decode cX0_flowToHandlers 59 = .ok (.aload_n 0, 1) := by decide +kernel
theorem dX0_flowToHandlers_60 : decode cX0_flowToHandlers 60 = .ok (.getfield 29, 3) := by decide +kernel
theorem dX0_flowToHandlers_63 : decode cX0_flowToHandlers 63 = .ok (.getfield 123, 3) := by decide +kernel
theorem dX0_flowToHandlers_66 : decode cX0_flowToHandlers 66 = .ok (.iload_n 2, 1) := by decide +kernel
theorem dX0_flowToHandlers_67 : decode cX0_flowToHandlers 67 = .ok (.iaload, 1) := by decide +kernel
theorem dX0_flowToHandlers_68 : decode cX0_flowToHandlers 68 = .ok (.aload_n 0, 1) := by decide +kernel
theorem dX0_flowToHandlers_69 : decode cX0_flowToHandlers 69 = .ok (.getfield 18, 3) := by decide +kernel
theorem dX0_flowToHandlers_72 : decode cX0_flowToHandlers 72 = .ok (.iconst 0, 1) := by decide +kernel
theorem dX0_flowToHandlers_73 : decode cX0_flowToHandlers 73 = .ok (.invokevirtual 126, 3) := by decide +kernel
theorem dX0_flowToHandlers_76 : decode cX0_flowToHandlers 76 = .ok (.istore_n 3, 1) := by decide +kernel
theorem dX0_flowToHandlers_77 : decode cX0_flowToHandlers 77 = .ok (.iload_n 3, 1) := by decide +kernel
theorem dX0_flowToHandlers_78 : decode cX0_flowToHandlers 78 = .ok (.ifCond .eq 5, 3) := by decide +kernel
theorem dX0_flowToHandlers_81 : decode cX0_flowToHandlers 81 = .ok (.iload_n 3, 1) := by decide +kernel
theorem dX0_flowToHandlers_82 : decode cX0_flowToHandlers 82 = .ok (.ireturn, 1) := by decide +kernel
theorem dX0_flowToHandlers_83 : decode cX0_flowToHandlers 83 = .ok (.iinc 2 1, 3) := by decide +kernel
theorem dX0_flowToHandlers_86 : decode cX0_flowToHandlers 86 = .ok (.goto (-84), 3) := by decide +kernel
theorem dX0_flowToHandlers_89 : decode cX0_flowToHandlers 89 = .ok (.iconst 0, 1) := by decide +kernel
theorem dX0_flowToHandlers_90 : decode cX0_flowToHandlers 90 = .ok (.ireturn, 1) := by decide +kernel
theorem dX0_flowToSuccessors_0 : decode cX0_flowToSuccessors 0 = .ok (.aload_n 0, 1) := by decide +kernel
theorem dX0_flowToSuccessors_1 : decode cX0_flowToSuccessors 1 = .ok (.getfield 29, 3) := by decide +kernel
theorem dX0_flowToSuccessors_4 : decode cX0_flowToSuccessors 4 = .ok (.getfield 130, 3) := by decide +kernel
theorem dX0_flowToSuccessors_7 : decode cX0_flowToSuccessors 7 = .ok (.iload_n 1, 1) := by decide +kernel
theorem dX0_flowToSuccessors_8 : decode cX0_flowToSuccessors 8 = .ok (.iaload, 1) := by decide +kernel
theorem dX0_flowToSuccessors_9 : decode cX0_flowToSuccessors 9 = .ok (.istore_n 2, 1) := by decide +kernel
theorem dX0_flowToSuccessors_10 : decode cX0_flowToSuccessors 10 = .ok (.iconst 0, 1) := by decide +kernel
theorem dX0_flowToSuccessors_11 : decode cX0_flowToSuccessors 11 = .ok (.istore_n 3, 1) := by decide +kernel
theorem dX0_flowToSuccessors_12 : decode cX0_flowToSuccessors 12 = .ok (.iload_n 2, 1) := by decide +kernel
theorem dX0_flowToSuccessors_13 : decode cX0_flowToSuccessors 13 = .ok (.invokestatic 133, 3) := by decide +kernel
theorem dX0_flowToSuccessors_16 : decode cX0_flowToSuccessors 16 = .ok (.ifCond .eq 34, 3) := by decide +kernel
theorem dX0_flowToSuccessors_19 : decode cX0_flowToSuccessors 19 = .ok (.aload_n 0, 1) := by decide +kernel
theorem dX0_flowToSuccessors_20 : decode cX0_flowToSuccessors 20 = .ok (.getfield 29, 3) := by decide +kernel
theorem dX0_flowToSuccessors_23 : decode cX0_flowToSuccessors 23 = .ok (.iload_n 1, 1) := by decide +kernel
theorem dX0_flowToSuccessors_24 : decode cX0_flowToSuccessors 24 = .ok (.iconst 1, 1) := by decide +kernel
theorem dX0_flowToSuccessors_25 : decode cX0_flowToSuccessors 25 = .ok (.iadd, 1) := by decide +kernel
theorem dX0_flowToSuccessors_26 : decode cX0_flowToSuccessors 26 = .ok (.invokevirtual 139, 3) := by decide +kernel
theorem dX0_flowToSuccessors_29 : decode cX0_flowToSuccessors 29 = .ok (.ifCond .eq 18, 3) := by decide +kernel
theorem dX0_flowToSuccessors_32 : decode cX0_flowToSuccessors 32 = .ok (.aload_n 0, 1) := by decide +kernel
theorem dX0_flowToSuccessors_33 : decode cX0_flowToSuccessors 33 = .ok (.iload_n 1, 1) := by decide +kernel
theorem dX0_flowToSuccessors_34 : decode cX0_flowToSuccessors 34 = .ok (.iconst 1, 1) := by decide +kernel
theorem dX0_flowToSuccessors_35 : decode cX0_flowToSuccessors 35 = .ok (.iadd, 1) := by decide +kernel
theorem dX0_flowToSuccessors_36 : decode cX0_flowToSuccessors 36 = .ok (.aload_n 0, 1) := by decide +kernel
theorem dX0_flowToSuccessors_37 : decode cX0_flowToSuccessors 37 = .ok (.getfield 12, 3) := by decide +kernel
theorem dX0_flowToSuccessors_40 : decode cX0_flowToSuccessors 40 = .ok (.iconst 1, 1) := by decide +kernel
theorem dX0_flowToSuccessors_41 : decode cX0_flowToSuccessors 41 = .ok (.invokevirtual 126, 3) := by decide +kernel
theorem dX0_flowToSuccessors_44 : decode cX0_flowToSuccessors 44 = .ok (.goto 5, 3) := by decide +kernel
theorem dX0_flowToSuccessors_47 : decode cX0_flowToSuccessors 47 = .ok (.bipush 7, 2) := by decide +kernel
theorem dX0_flowToSuccessors_49 : decode cX0_flowToSuccessors 49 = .ok (.istore_n 3, 1) := by decide +kernel
theorem dX0_flowToSuccessors_50 : decode cX0_flowToSuccessors 50 = .ok (.iload_n 3, 1) := by decide +kernel
theorem dX0_flowToSuccessors_51 : decode cX0_flowToSuccessors 51 = .ok (.ifCond .ne 29, 3) := by decide +kernel
theorem dX0_flowToSuccessors_54 : decode cX0_flowToSuccessors 54 = .ok (.iload_n 2, 1) := by decide +kernel
theorem dX0_flowToSuccessors_55 : decode cX0_flowToSuccessors 55 = .ok (.invokestatic 142, 3) := by decide +kernel
theorem dX0_flowToSuccessors_58 : decode cX0_flowToSuccessors 58 = .ok (.ifCond .eq 22, 3) := by decide +kernel
theorem dX0_flowToSuccessors_61 : decode cX0_flowToSuccessors 61 = .ok (.aload_n 0, 1) := by decide +kernel
theorem dX0_flowToSuccessors_62 : decode cX0_flowToSuccessors 62 = .ok (.aload_n 0, 1) := by decide +kernel
theorem dX0_flowToSuccessors_63 : decode cX0_flowToSuccessors 63 = .ok (.getfield 29, 3) := by decide +kernel
theorem dX0_flowToSuccessors_66 : decode cX0_flowToSuccessors 66 = .ok (.getfield 145, 3) := by decide +kernel
theorem dX0_flowToSuccessors_69 : decode cX0_flowToSuccessors 69 = .ok (.iload_n 1, 1) := by decide +kernel
theorem dX0_flowToSuccessors_70 : decode cX0_flowToSuccessors 70 = .ok (.iaload, 1) := by decide +kernel
theorem dX0_flowToSuccessors_71 : decode cX0_flowToSuccessors 71 = .ok (.aload_n 0, 1) := by decide +kernel
theorem dX0_flowToSuccessors_72 : decode cX0_flowToSuccessors 72 = .ok (.getfield 12, 3) := by decide +kernel
theorem dX0_flowToSuccessors_75 : decode cX0_flowToSuccessors 75 = .ok (.iconst 0, 1) := by decide +kernel
theorem dX0_flowToSuccessors_76 : decode cX0_flowToSuccessors 76 = .ok (.invokevirtual 126, 3) := by decide +kernel
theorem dX0_flowToSuccessors_79 : decode cX0_flowToSuccessors 79 = .ok (.istore_n 3, 1) := by decide +kernel
theorem dX0_flowToSuccessors_80 : decode cX0_flowToSuccessors 80 = .ok (.iload_n 3, 1) := by decide +kernel
theorem dX0_flowToSuccessors_81 : decode cX0_flowToSuccessors 81 = .ok (.ireturn, 1) := by decide +kernel
theorem dJ9_max_7cf53_0 : decode cJ9_max_7cf53 0 = .ok (.iload_n 0, 1) := by decide +kernel
theorem dJ9_max_7cf53_1 : decode cJ9_max_7cf53 1 = .ok (.iload_n 1, 1) := by decide +kernel
theorem dJ9_max_7cf53_2 : decode cJ9_max_7cf53 2 = .ok (.if_icmp .lt 7, 3) := by decide +kernel
theorem dJ9_max_7cf53_5 : decode cJ9_max_7cf53 5 = .ok (.iload_n 0, 1) := by decide +kernel
theorem dJ9_max_7cf53_6 : decode cJ9_max_7cf53 6 = .ok (.goto 4, 3) := by decide +kernel
theorem dJ9_max_7cf53_9 : decode cJ9_max_7cf53 9 = .ok (.iload_n 1, 1) := by decide +kernel
theorem dJ9_max_7cf53_10 : decode cJ9_max_7cf53 10 = .ok (.ireturn, 1) := by decide +kernel
theorem dJ9_min_7cf53_0 : decode cJ9_min_7cf53 0 = .ok (.iload_n 0, 1) := by decide +kernel
theorem dJ9_min_7cf53_1 : decode cJ9_min_7cf53 1 = .ok (.iload_n 1, 1) := by decide +kernel
theorem dJ9_min_7cf53_2 : decode cJ9_min_7cf53 2 = .ok (.if_icmp .gt 7, 3) := by decide +kernel
theorem dJ9_min_7cf53_5 : decode cJ9_min_7cf53 5 = .ok (.iload_n 0, 1) := by decide +kernel
theorem dJ9_min_7cf53_6 : decode cJ9_min_7cf53 6 = .ok (.goto 4, 3) := by decide +kernel
theorem dJ9_min_7cf53_9 : decode cJ9_min_7cf53 9 = .ok (.iload_n 1, 1) := by decide +kernel
theorem dJ9_min_7cf53_10 : decode cJ9_min_7cf53 10 = .ok (.ireturn, 1) := by decide +kernel
theorem dL_declareClass_0 : decode cL_declareClass 0 = .ok (.aload_n 3, 1) := by decide +kernel
theorem dL_declareClass_1 : decode cL_declareClass 1 = .ok (.iconst 0, 1) := by decide +kernel
theorem dL_declareClass_2 : decode cL_declareClass 2 = .ok (.aload_n 0, 1) := by decide +kernel
theorem dL_declareClass_3 : decode cL_declareClass 3 = .ok (.iload_n 1, 1) := by decide +kernel
theorem dL_declareClass_4 : decode cL_declareClass 4 = .ok (.iload_n 2, 1) := by decide +kernel
theorem dL_declareClass_5 : decode cL_declareClass 5 = .ok (.invokevirtual 7, 3) := by decide +kernel
theorem dL_declareClass_8 : decode cL_declareClass 8 = .ok (.i2l, 1) := by decide +kernel
theorem dL_declareClass_9 : decode cL_declareClass 9 = .ok (.lastore, 1) := by decide +kernel
theorem dL_declareClass_10 : decode cL_declareClass 10 = .ok (.goto 11, 3) := by decide +kernel
theorem dL_declareClass_13 : decode cL_declareClass 13 = .ok (.astore 4, 2) := by decide +kernel
theorem dL_declareClass_15 : decode cL_declareClass 15 = .ok (.iconst 1, 1) := by decide +kernel
theorem dL_declareClass_16 : decode cL_declareClass 16 = .ok (.ireturn, 1) := by decide +kernel
theorem dL_declareClass_17 : decode cL_declareClass 17 = .ok (.astore 4, 2) := by decide +kernel
theorem dL_declareClass_19 : decode cL_declareClass 19 = .ok (.iconst 2, 1) := by decide +kernel
theorem dL_declareClass_20 : decode cL_declareClass 20 = .ok (.ireturn, 1) := by decide +kernel
theorem dL_declareClass_21 : decode cL_declareClass 21 = .ok (.iconst 0, 1) := by decide +kernel
theorem dL_declareClass_22 : decode cL_declareClass 22 = .ok (.ireturn, 1) := by decide +kernel
theorem dL_declareField_0 : decode cL_declareField 0 = .ok (.aload_n 3, 1) := by decide +kernel
theorem dL_declareField_1 : decode cL_declareField 1 = .ok (.iconst 0, 1) := by decide +kernel
theorem dL_declareField_2 : decode cL_declareField 2 = .ok (.aload_n 0, 1) := by decide +kernel
theorem dL_declareField_3 : decode cL_declareField 3 = .ok (.iload_n 1, 1) := by decide +kernel
theorem dL_declareField_4 : decode cL_declareField 4 = .ok (.iload_n 2, 1) := by decide +kernel
theorem dL_declareField_5 : decode cL_declareField 5 = .ok (.invokevirtual 17, 3) := by decide +kernel
theorem dL_declareField_8 : decode cL_declareField 8 = .ok (.i2l, 1) := by decide +kernel
theorem dL_declareField_9 : decode cL_declareField 9 = .ok (.lastore, 1) := by decide +kernel
theorem dL_declareField_10 : decode cL_declareField 10 = .ok (.goto 11, 3) := by decide +kernel
theorem dL_declareField_13 : decode cL_declareField 13 = .ok (.astore 4, 2) := by decide +kernel
theorem dL_declareField_15 : decode cL_declareField 15 = .ok (.iconst 1, 1) := by decide +kernel
theorem dL_declareField_16 : decode cL_declareField 16 = .ok (.ireturn, 1) := by decide +kernel
theorem dL_declareField_17 : decode cL_declareField 17 = .ok (.astore 4, 2) := by decide +kernel
theorem dL_declareField_19 : decode cL_declareField 19 = .ok (.iconst 2, 1) := by decide +kernel
theorem dL_declareField_20 : decode cL_declareField 20 = .ok (.ireturn, 1) := by decide +kernel
theorem dL_declareField_21 : decode cL_declareField 21 = .ok (.iconst 0, 1) := by decide +kernel
theorem dL_declareField_22 : decode cL_declareField 22 = .ok (.ireturn, 1) := by decide +kernel
theorem dL_parameter_0 : decode cL_parameter 0 = .ok (.aload_n 2, 1) := by decide +kernel
theorem dL_parameter_1 : decode cL_parameter 1 = .ok (.iconst 0, 1) := by decide +kernel
theorem dL_parameter_2 : decode cL_parameter 2 = .ok (.aload_n 0, 1) := by decide +kernel
theorem dL_parameter_3 : decode cL_parameter 3 = .ok (.iload_n 1, 1) := by decide +kernel
theorem dL_parameter_4 : decode cL_parameter 4 = .ok (.invokevirtual 21, 3) := by decide +kernel
theorem dL_parameter_7 : decode cL_parameter 7 = .ok (.i2l, 1) := by decide +kernel
theorem dL_parameter_8 : decode cL_parameter 8 = .ok (.lastore, 1) := by decide +kernel
theorem dL_parameter_9 : decode cL_parameter 9 = .ok (.goto 9, 3) := by decide +kernel
theorem dL_parameter_12 : decode cL_parameter 12 = .ok (.astore_n 3, 1) := by decide +kernel
theorem dL_parameter_13 : decode cL_parameter 13 = .ok (.iconst 1, 1) := by decide +kernel
theorem dL_parameter_14 : decode cL_parameter 14 = .ok (.ireturn, 1) := by decide +kernel
theorem dL_parameter_15 : decode cL_parameter 15 = .ok (.astore_n 3, 1) := by decide +kernel
theorem dL_parameter_16 : decode cL_parameter 16 = .ok (.iconst 2, 1) := by decide +kernel
theorem dL_parameter_17 : decode cL_parameter 17 = .ok (.ireturn, 1) := by decide +kernel
theorem dL_parameter_18 : decode cL_parameter 18 = .ok (.iconst 0, 1) := by decide +kernel
theorem dL_parameter_19 : decode cL_parameter 19 = .ok (.ireturn, 1) := by decide +kernel
theorem dL_declareMethod_0 : decode cL_declareMethod 0 = .ok (.aload 4, 2) := by decide +kernel
theorem dL_declareMethod_2 : decode cL_declareMethod 2 = .ok (.iconst 0, 1) := by decide +kernel
theorem dL_declareMethod_3 : decode cL_declareMethod 3 = .ok (.aload_n 0, 1) := by decide +kernel
theorem dL_declareMethod_4 : decode cL_declareMethod 4 = .ok (.iload_n 1, 1) := by decide +kernel
theorem dL_declareMethod_5 : decode cL_declareMethod 5 = .ok (.iload_n 2, 1) := by decide +kernel
theorem dL_declareMethod_6 : decode cL_declareMethod 6 = .ok (.iload_n 3, 1) := by decide +kernel
theorem dL_declareMethod_7 : decode cL_declareMethod 7 = .ok (.invokevirtual 25, 3) := by decide +kernel
theorem dL_declareMethod_10 : decode cL_declareMethod 10 = .ok (.i2l, 1) := by decide +kernel
theorem dL_declareMethod_11 : decode cL_declareMethod 11 = .ok (.lastore, 1) := by decide +kernel
theorem dL_declareMethod_12 : decode cL_declareMethod 12 = .ok (.goto 11, 3) := by decide +kernel
theorem dL_declareMethod_15 : decode cL_declareMethod 15 = .ok (.astore 5, 2) := by decide +kernel
theorem dL_declareMethod_17 : decode cL_declareMethod 17 = .ok (.iconst 1, 1) := by decide +kernel
theorem dL_declareMethod_18 : decode cL_declareMethod 18 = .ok (.ireturn, 1) := by decide +kernel
theorem dL_declareMethod_19 : decode cL_declareMethod 19 = .ok (.astore 5, 2) := by decide +kernel
theorem dL_declareMethod_21 : decode cL_declareMethod 21 = .ok (.iconst 2, 1) := by decide +kernel
theorem dL_declareMethod_22 : decode cL_declareMethod 22 = .ok (.ireturn, 1) := by decide +kernel
theorem dL_declareMethod_23 : decode cL_declareMethod 23 = .ok (.iconst 0, 1) := by decide +kernel
theorem dL_declareMethod_24 : decode cL_declareMethod 24 = .ok (.ireturn, 1) := by decide +kernel
theorem dL_isAssignable_0 : decode cL_isAssignable 0 = .ok (.aload_n 3, 1) := by decide +kernel
theorem dL_isAssignable_1 : decode cL_isAssignable 1 = .ok (.iconst 0, 1) := by decide +kernel
theorem dL_isAssignable_2 : decode cL_isAssignable 2 = .ok (.aload_n 0, 1) := by decide +kernel
theorem dL_isAssignable_3 : decode cL_isAssignable 3 = .ok (.iload_n 1, 1) := by decide +kernel
theorem dL_isAssignable_4 : decode cL_isAssignable 4 = .ok (.iload_n 2, 1) := by decide +kernel
theorem dL_isAssignable_5 : decode cL_isAssignable 5 = .ok (.invokevirtual 29, 3) := by decide +kernel
theorem dL_isAssignable_8 : decode cL_isAssignable 8 = .ok (.ifCond .eq 7, 3) := by decide +kernel
theorem dL_isAssignable_11 : decode cL_isAssignable 11 = .ok (.lconst 1, 1) := by decide +kernel
theorem dL_isAssignable_12 : decode cL_isAssignable 12 = .ok (.goto 4, 3) := by decide +kernel
theorem dL_isAssignable_15 : decode cL_isAssignable 15 = .ok (.lconst 0, 1) := by decide +kernel
theorem dL_isAssignable_16 : decode cL_isAssignable 16 = .ok (.lastore, 1) := by decide +kernel
theorem dL_isAssignable_17 : decode cL_isAssignable 17 = .ok (.goto 7, 3) := by decide +kernel
theorem dL_isAssignable_20 : decode cL_isAssignable 20 = .ok (.astore 4, 2) := by decide +kernel
theorem dL_isAssignable_22 : decode cL_isAssignable 22 = .ok (.iconst 1, 1) := by decide +kernel
theorem dL_isAssignable_23 : decode cL_isAssignable 23 = .ok (.ireturn, 1) := by decide +kernel
theorem dL_isAssignable_24 : decode cL_isAssignable 24 = .ok (.iconst 0, 1) := by decide +kernel
theorem dL_isAssignable_25 : decode cL_isAssignable 25 = .ok (.ireturn, 1) := by decide +kernel
theorem dL_join_0 : decode cL_join 0 = .ok (.aload_n 3, 1) := by decide +kernel
theorem dL_join_1 : decode cL_join 1 = .ok (.iconst 0, 1) := by decide +kernel
theorem dL_join_2 : decode cL_join 2 = .ok (.aload_n 0, 1) := by decide +kernel
theorem dL_join_3 : decode cL_join 3 = .ok (.iload_n 1, 1) := by decide +kernel
theorem dL_join_4 : decode cL_join 4 = .ok (.iload_n 2, 1) := by decide +kernel
theorem dL_join_5 : decode cL_join 5 = .ok (.invokevirtual 33, 3) := by decide +kernel
theorem dL_join_8 : decode cL_join 8 = .ok (.i2l, 1) := by decide +kernel
theorem dL_join_9 : decode cL_join 9 = .ok (.lastore, 1) := by decide +kernel
theorem dL_join_10 : decode cL_join 10 = .ok (.goto 7, 3) := by decide +kernel
theorem dL_join_13 : decode cL_join 13 = .ok (.astore 4, 2) := by decide +kernel
theorem dL_join_15 : decode cL_join 15 = .ok (.iconst 1, 1) := by decide +kernel
theorem dL_join_16 : decode cL_join 16 = .ok (.ireturn, 1) := by decide +kernel
theorem dL_join_17 : decode cL_join 17 = .ok (.iconst 0, 1) := by decide +kernel
theorem dL_join_18 : decode cL_join 18 = .ok (.ireturn, 1) := by decide +kernel
theorem dL_begin_0 : decode cL_begin 0 = .ok (.aload 4, 2) := by decide +kernel
theorem dL_begin_2 : decode cL_begin 2 = .ok (.iconst 0, 1) := by decide +kernel
theorem dL_begin_3 : decode cL_begin 3 = .ok (.aload_n 0, 1) := by decide +kernel
theorem dL_begin_4 : decode cL_begin 4 = .ok (.iload_n 1, 1) := by decide +kernel
theorem dL_begin_5 : decode cL_begin 5 = .ok (.iload_n 2, 1) := by decide +kernel
theorem dL_begin_6 : decode cL_begin 6 = .ok (.iload_n 3, 1) := by decide +kernel
theorem dL_begin_7 : decode cL_begin 7 = .ok (.invokevirtual 36, 3) := by decide +kernel
theorem dL_begin_10 : decode cL_begin 10 = .ok (.i2l, 1) := by decide +kernel
theorem dL_begin_11 : decode cL_begin 11 = .ok (.lastore, 1) := by decide +kernel
theorem dL_begin_12 : decode cL_begin 12 = .ok (.goto 11, 3) := by decide +kernel
theorem dL_begin_15 : decode cL_begin 15 = .ok (.astore 5, 2) := by decide +kernel
theorem dL_begin_17 : decode cL_begin 17 = .ok (.iconst 1, 1) := by decide +kernel
theorem dL_begin_18 : decode cL_begin 18 = .ok (.ireturn, 1) := by decide +kernel
theorem dL_begin_19 : decode cL_begin 19 = .ok (.astore 5, 2) := by decide +kernel
theorem dL_begin_21 : decode cL_begin 21 = .ok (.iconst 2, 1) := by decide +kernel
theorem dL_begin_22 : decode cL_begin 22 = .ok (.ireturn, 1) := by decide +kernel
theorem dL_begin_23 : decode cL_begin 23 = .ok (.iconst 0, 1) := by decide +kernel
theorem dL_begin_24 : decode cL_begin 24 = .ok (.ireturn, 1) := by decide +kernel
theorem dL_emit_0 : decode cL_emit 0 = .ok (.aload_n 3, 1) := by decide +kernel
theorem dL_emit_1 : decode cL_emit 1 = .ok (.iconst 0, 1) := by decide +kernel
theorem dL_emit_2 : decode cL_emit 2 = .ok (.aload_n 0, 1) := by decide +kernel
theorem dL_emit_3 : decode cL_emit 3 = .ok (.iload_n 1, 1) := by decide +kernel
theorem dL_emit_4 : decode cL_emit 4 = .ok (.iload_n 2, 1) := by decide +kernel
theorem dL_emit_5 : decode cL_emit 5 = .ok (.invokevirtual 41, 3) := by decide +kernel
theorem dL_emit_8 : decode cL_emit 8 = .ok (.i2l, 1) := by decide +kernel
theorem dL_emit_9 : decode cL_emit 9 = .ok (.lastore, 1) := by decide +kernel
theorem dL_emit_10 : decode cL_emit 10 = .ok (.goto 11, 3) := by decide +kernel
theorem dL_emit_13 : decode cL_emit 13 = .ok (.astore 4, 2) := by decide +kernel
theorem dL_emit_15 : decode cL_emit 15 = .ok (.iconst 1, 1) := by decide +kernel
theorem dL_emit_16 : decode cL_emit 16 = .ok (.ireturn, 1) := by decide +kernel
theorem dL_emit_17 : decode cL_emit 17 = .ok (.astore 4, 2) := by decide +kernel
theorem dL_emit_19 : decode cL_emit 19 = .ok (.iconst 2, 1) := by decide +kernel
theorem dL_emit_20 : decode cL_emit 20 = .ok (.ireturn, 1) := by decide +kernel
theorem dL_emit_21 : decode cL_emit 21 = .ok (.iconst 0, 1) := by decide +kernel
theorem dL_emit_22 : decode cL_emit 22 = .ok (.ireturn, 1) := by decide +kernel
theorem dL_addHandler_0 : decode cL_addHandler 0 = .ok (.aload 5, 2) := by decide +kernel
theorem dL_addHandler_2 : decode cL_addHandler 2 = .ok (.iconst 0, 1) := by decide +kernel
theorem dL_addHandler_3 : decode cL_addHandler 3 = .ok (.aload_n 0, 1) := by decide +kernel
theorem dL_addHandler_4 : decode cL_addHandler 4 = .ok (.iload_n 1, 1) := by decide +kernel
theorem dL_addHandler_5 : decode cL_addHandler 5 = .ok (.iload_n 2, 1) := by decide +kernel
theorem dL_addHandler_6 : decode cL_addHandler 6 = .ok (.iload_n 3, 1) := by decide +kernel
theorem dL_addHandler_7 : decode cL_addHandler 7 = .ok (.iload 4, 2) := by decide +kernel
theorem dL_addHandler_9 : decode cL_addHandler 9 = .ok (.invokevirtual 44, 3) := by decide +kernel
theorem dL_addHandler_12 : decode cL_addHandler 12 = .ok (.i2l, 1) := by decide +kernel
theorem dL_addHandler_13 : decode cL_addHandler 13 = .ok (.lastore, 1) := by decide +kernel
theorem dL_addHandler_14 : decode cL_addHandler 14 = .ok (.goto 11, 3) := by decide +kernel
theorem dL_addHandler_17 : decode cL_addHandler 17 = .ok (.astore 6, 2) := by decide +kernel
theorem dL_addHandler_19 : decode cL_addHandler 19 = .ok (.iconst 1, 1) := by decide +kernel
theorem dL_addHandler_20 : decode cL_addHandler 20 = .ok (.ireturn, 1) := by decide +kernel
theorem dL_addHandler_21 : decode cL_addHandler 21 = .ok (.astore 6, 2) := by decide +kernel
theorem dL_addHandler_23 : decode cL_addHandler 23 = .ok (.iconst 2, 1) := by decide +kernel
theorem dL_addHandler_24 : decode cL_addHandler 24 = .ok (.ireturn, 1) := by decide +kernel
theorem dL_addHandler_25 : decode cL_addHandler 25 = .ok (.iconst 0, 1) := by decide +kernel
theorem dL_addHandler_26 : decode cL_addHandler 26 = .ok (.ireturn, 1) := by decide +kernel
theorem dL_pushLocal_0 : decode cL_pushLocal 0 = .ok (.aload_n 2, 1) := by decide +kernel
theorem dL_pushLocal_1 : decode cL_pushLocal 1 = .ok (.iconst 0, 1) := by decide +kernel
theorem dL_pushLocal_2 : decode cL_pushLocal 2 = .ok (.aload_n 0, 1) := by decide +kernel
theorem dL_pushLocal_3 : decode cL_pushLocal 3 = .ok (.iload_n 1, 1) := by decide +kernel
theorem dL_pushLocal_4 : decode cL_pushLocal 4 = .ok (.invokevirtual 48, 3) := by decide +kernel
theorem dL_pushLocal_7 : decode cL_pushLocal 7 = .ok (.i2l, 1) := by decide +kernel
theorem dL_pushLocal_8 : decode cL_pushLocal 8 = .ok (.lastore, 1) := by decide +kernel
theorem dL_pushLocal_9 : decode cL_pushLocal 9 = .ok (.goto 9, 3) := by decide +kernel
theorem dL_pushLocal_12 : decode cL_pushLocal 12 = .ok (.astore_n 3, 1) := by decide +kernel
theorem dL_pushLocal_13 : decode cL_pushLocal 13 = .ok (.iconst 1, 1) := by decide +kernel
theorem dL_pushLocal_14 : decode cL_pushLocal 14 = .ok (.ireturn, 1) := by decide +kernel
theorem dL_pushLocal_15 : decode cL_pushLocal 15 = .ok (.astore_n 3, 1) := by decide +kernel
theorem dL_pushLocal_16 : decode cL_pushLocal 16 = .ok (.iconst 2, 1) := by decide +kernel
theorem dL_pushLocal_17 : decode cL_pushLocal 17 = .ok (.ireturn, 1) := by decide +kernel
theorem dL_pushLocal_18 : decode cL_pushLocal 18 = .ok (.iconst 0, 1) := by decide +kernel
theorem dL_pushLocal_19 : decode cL_pushLocal 19 = .ok (.ireturn, 1) := by decide +kernel
theorem dL_pushStack_0 : decode cL_pushStack 0 = .ok (.aload_n 2, 1) := by decide +kernel
theorem dL_pushStack_1 : decode cL_pushStack 1 = .ok (.iconst 0, 1) := by decide +kernel
theorem dL_pushStack_2 : decode cL_pushStack 2 = .ok (.aload_n 0, 1) := by decide +kernel
theorem dL_pushStack_3 : decode cL_pushStack 3 = .ok (.iload_n 1, 1) := by decide +kernel
theorem dL_pushStack_4 : decode cL_pushStack 4 = .ok (.invokevirtual 51, 3) := by decide +kernel
theorem dL_pushStack_7 : decode cL_pushStack 7 = .ok (.i2l, 1) := by decide +kernel
theorem dL_pushStack_8 : decode cL_pushStack 8 = .ok (.lastore, 1) := by decide +kernel
theorem dL_pushStack_9 : decode cL_pushStack 9 = .ok (.goto 9, 3) := by decide +kernel
theorem dL_pushStack_12 : decode cL_pushStack 12 = .ok (.astore_n 3, 1) := by decide +kernel
theorem dL_pushStack_13 : decode cL_pushStack 13 = .ok (.iconst 1, 1) := by decide +kernel
theorem dL_pushStack_14 : decode cL_pushStack 14 = .ok (.ireturn, 1) := by decide +kernel
theorem dL_pushStack_15 : decode cL_pushStack 15 = .ok (.astore_n 3, 1) := by decide +kernel
theorem dL_pushStack_16 : decode cL_pushStack 16 = .ok (.iconst 2, 1) := by decide +kernel
theorem dL_pushStack_17 : decode cL_pushStack 17 = .ok (.ireturn, 1) := by decide +kernel
theorem dL_pushStack_18 : decode cL_pushStack 18 = .ok (.iconst 0, 1) := by decide +kernel
theorem dL_pushStack_19 : decode cL_pushStack 19 = .ok (.ireturn, 1) := by decide +kernel
theorem dL_declareFrame_0 : decode cL_declareFrame 0 = .ok (.aload_n 3, 1) := by decide +kernel
theorem dL_declareFrame_1 : decode cL_declareFrame 1 = .ok (.iconst 0, 1) := by decide +kernel
theorem dL_declareFrame_2 : decode cL_declareFrame 2 = .ok (.aload_n 0, 1) := by decide +kernel
theorem dL_declareFrame_3 : decode cL_declareFrame 3 = .ok (.iload_n 1, 1) := by decide +kernel
theorem dL_declareFrame_4 : decode cL_declareFrame 4 = .ok (.iload_n 2, 1) := by decide +kernel
theorem dL_declareFrame_5 : decode cL_declareFrame 5 = .ok (.invokevirtual 54, 3) := by decide +kernel
theorem dL_declareFrame_8 : decode cL_declareFrame 8 = .ok (.i2l, 1) := by decide +kernel
theorem dL_declareFrame_9 : decode cL_declareFrame 9 = .ok (.lastore, 1) := by decide +kernel
theorem dL_declareFrame_10 : decode cL_declareFrame 10 = .ok (.goto 11, 3) := by decide +kernel
theorem dL_declareFrame_13 : decode cL_declareFrame 13 = .ok (.astore 4, 2) := by decide +kernel
theorem dL_declareFrame_15 : decode cL_declareFrame 15 = .ok (.iconst 1, 1) := by decide +kernel
theorem dL_declareFrame_16 : decode cL_declareFrame 16 = .ok (.ireturn, 1) := by decide +kernel
theorem dL_declareFrame_17 : decode cL_declareFrame 17 = .ok (.astore 4, 2) := by decide +kernel
theorem dL_declareFrame_19 : decode cL_declareFrame 19 = .ok (.iconst 2, 1) := by decide +kernel
theorem dL_declareFrame_20 : decode cL_declareFrame 20 = .ok (.ireturn, 1) := by decide +kernel
theorem dL_declareFrame_21 : decode cL_declareFrame 21 = .ok (.iconst 0, 1) := by decide +kernel
theorem dL_declareFrame_22 : decode cL_declareFrame 22 = .ok (.ireturn, 1) := by decide +kernel
theorem dL_adoptFrames_0 : decode cL_adoptFrames 0 = .ok (.aload_n 1, 1) := by decide +kernel
theorem dL_adoptFrames_1 : decode cL_adoptFrames 1 = .ok (.iconst 0, 1) := by decide +kernel
theorem dL_adoptFrames_2 : decode cL_adoptFrames 2 = .ok (.aload_n 0, 1) := by decide +kernel
theorem dL_adoptFrames_3 : decode cL_adoptFrames 3 = .ok (.invokevirtual 57, 3) := by decide +kernel
theorem dL_adoptFrames_6 : decode cL_adoptFrames 6 = .ok (.i2l, 1) := by decide +kernel
theorem dL_adoptFrames_7 : decode cL_adoptFrames 7 = .ok (.lastore, 1) := by decide +kernel
theorem dL_adoptFrames_8 : decode cL_adoptFrames 8 = .ok (.goto 6, 3) := by decide +kernel
theorem dL_adoptFrames_11 : decode cL_adoptFrames 11 = .ok (.astore_n 2, 1) := by decide +kernel
theorem dL_adoptFrames_12 : decode cL_adoptFrames 12 = .ok (.iconst 1, 1) := by decide +kernel
theorem dL_adoptFrames_13 : decode cL_adoptFrames 13 = .ok (.ireturn, 1) := by decide +kernel
theorem dL_adoptFrames_14 : decode cL_adoptFrames 14 = .ok (.iconst 0, 1) := by decide +kernel
theorem dL_adoptFrames_15 : decode cL_adoptFrames 15 = .ok (.ireturn, 1) := by decide +kernel
theorem dL_infer_0 : decode cL_infer 0 = .ok (.aload_n 1, 1) := by decide +kernel
theorem dL_infer_1 : decode cL_infer 1 = .ok (.iconst 0, 1) := by decide +kernel
theorem dL_infer_2 : decode cL_infer 2 = .ok (.aload_n 0, 1) := by decide +kernel
theorem dL_infer_3 : decode cL_infer 3 = .ok (.invokevirtual 61, 3) := by decide +kernel
theorem dL_infer_6 : decode cL_infer 6 = .ok (.i2l, 1) := by decide +kernel
theorem dL_infer_7 : decode cL_infer 7 = .ok (.lastore, 1) := by decide +kernel
theorem dL_infer_8 : decode cL_infer 8 = .ok (.goto 6, 3) := by decide +kernel
theorem dL_infer_11 : decode cL_infer 11 = .ok (.astore_n 2, 1) := by decide +kernel
theorem dL_infer_12 : decode cL_infer 12 = .ok (.iconst 1, 1) := by decide +kernel
theorem dL_infer_13 : decode cL_infer 13 = .ok (.ireturn, 1) := by decide +kernel
theorem dL_infer_14 : decode cL_infer 14 = .ok (.iconst 0, 1) := by decide +kernel
theorem dL_infer_15 : decode cL_infer 15 = .ok (.ireturn, 1) := by decide +kernel
theorem dL_check_0 : decode cL_check 0 = .ok (.aload_n 1, 1) := by decide +kernel
theorem dL_check_1 : decode cL_check 1 = .ok (.iconst 0, 1) := by decide +kernel
theorem dL_check_2 : decode cL_check 2 = .ok (.aload_n 0, 1) := by decide +kernel
theorem dL_check_3 : decode cL_check 3 = .ok (.invokevirtual 64, 3) := by decide +kernel
theorem dL_check_6 : decode cL_check 6 = .ok (.i2l, 1) := by decide +kernel
theorem dL_check_7 : decode cL_check 7 = .ok (.lastore, 1) := by decide +kernel
theorem dL_check_8 : decode cL_check 8 = .ok (.goto 6, 3) := by decide +kernel
theorem dL_check_11 : decode cL_check 11 = .ok (.astore_n 2, 1) := by decide +kernel
theorem dL_check_12 : decode cL_check 12 = .ok (.iconst 1, 1) := by decide +kernel
theorem dL_check_13 : decode cL_check 13 = .ok (.ireturn, 1) := by decide +kernel
theorem dL_check_14 : decode cL_check 14 = .ok (.iconst 0, 1) := by decide +kernel
theorem dL_check_15 : decode cL_check 15 = .ok (.ireturn, 1) := by decide +kernel
theorem dL_hasFrame_0 : decode cL_hasFrame 0 = .ok (.aload_n 2, 1) := by decide +kernel
theorem dL_hasFrame_1 : decode cL_hasFrame 1 = .ok (.iconst 0, 1) := by decide +kernel
theorem dL_hasFrame_2 : decode cL_hasFrame 2 = .ok (.aload_n 0, 1) := by decide +kernel
theorem dL_hasFrame_3 : decode cL_hasFrame 3 = .ok (.iload_n 1, 1) := by decide +kernel
theorem dL_hasFrame_4 : decode cL_hasFrame 4 = .ok (.invokevirtual 67, 3) := by decide +kernel
theorem dL_hasFrame_7 : decode cL_hasFrame 7 = .ok (.ifCond .eq 7, 3) := by decide +kernel
theorem dL_hasFrame_10 : decode cL_hasFrame 10 = .ok (.lconst 1, 1) := by decide +kernel
theorem dL_hasFrame_11 : decode cL_hasFrame 11 = .ok (.goto 4, 3) := by decide +kernel
theorem dL_hasFrame_14 : decode cL_hasFrame 14 = .ok (.lconst 0, 1) := by decide +kernel
theorem dL_hasFrame_15 : decode cL_hasFrame 15 = .ok (.lastore, 1) := by decide +kernel
theorem dL_hasFrame_16 : decode cL_hasFrame 16 = .ok (.goto 6, 3) := by decide +kernel
theorem dL_hasFrame_19 : decode cL_hasFrame 19 = .ok (.astore_n 3, 1) := by decide +kernel
theorem dL_hasFrame_20 : decode cL_hasFrame 20 = .ok (.iconst 1, 1) := by decide +kernel
theorem dL_hasFrame_21 : decode cL_hasFrame 21 = .ok (.ireturn, 1) := by decide +kernel
theorem dL_hasFrame_22 : decode cL_hasFrame 22 = .ok (.iconst 0, 1) := by decide +kernel
theorem dL_hasFrame_23 : decode cL_hasFrame 23 = .ok (.ireturn, 1) := by decide +kernel
theorem dL_stackHeight_0 : decode cL_stackHeight 0 = .ok (.aload_n 2, 1) := by decide +kernel
theorem dL_stackHeight_1 : decode cL_stackHeight 1 = .ok (.iconst 0, 1) := by decide +kernel
theorem dL_stackHeight_2 : decode cL_stackHeight 2 = .ok (.aload_n 0, 1) := by decide +kernel
theorem dL_stackHeight_3 : decode cL_stackHeight 3 = .ok (.iload_n 1, 1) := by decide +kernel
theorem dL_stackHeight_4 : decode cL_stackHeight 4 = .ok (.invokevirtual 71, 3) := by decide +kernel
theorem dL_stackHeight_7 : decode cL_stackHeight 7 = .ok (.i2l, 1) := by decide +kernel
theorem dL_stackHeight_8 : decode cL_stackHeight 8 = .ok (.lastore, 1) := by decide +kernel
theorem dL_stackHeight_9 : decode cL_stackHeight 9 = .ok (.goto 9, 3) := by decide +kernel
theorem dL_stackHeight_12 : decode cL_stackHeight 12 = .ok (.astore_n 3, 1) := by decide +kernel
theorem dL_stackHeight_13 : decode cL_stackHeight 13 = .ok (.iconst 1, 1) := by decide +kernel
theorem dL_stackHeight_14 : decode cL_stackHeight 14 = .ok (.ireturn, 1) := by decide +kernel
theorem dL_stackHeight_15 : decode cL_stackHeight 15 = .ok (.astore_n 3, 1) := by decide +kernel
theorem dL_stackHeight_16 : decode cL_stackHeight 16 = .ok (.iconst 2, 1) := by decide +kernel
theorem dL_stackHeight_17 : decode cL_stackHeight 17 = .ok (.ireturn, 1) := by decide +kernel
theorem dL_stackHeight_18 : decode cL_stackHeight 18 = .ok (.iconst 0, 1) := by decide +kernel
theorem dL_stackHeight_19 : decode cL_stackHeight 19 = .ok (.ireturn, 1) := by decide +kernel
theorem dL_stackSlot_0 : decode cL_stackSlot 0 = .ok (.aload_n 3, 1) := by decide +kernel
theorem dL_stackSlot_1 : decode cL_stackSlot 1 = .ok (.iconst 0, 1) := by decide +kernel
theorem dL_stackSlot_2 : decode cL_stackSlot 2 = .ok (.aload_n 0, 1) := by decide +kernel
theorem dL_stackSlot_3 : decode cL_stackSlot 3 = .ok (.iload_n 1, 1) := by decide +kernel
theorem dL_stackSlot_4 : decode cL_stackSlot 4 = .ok (.iload_n 2, 1) := by decide +kernel
theorem dL_stackSlot_5 : decode cL_stackSlot 5 = .ok (.invokevirtual 74, 3) := by decide +kernel
theorem dL_stackSlot_8 : decode cL_stackSlot 8 = .ok (.i2l, 1) := by decide +kernel
theorem dL_stackSlot_9 : decode cL_stackSlot 9 = .ok (.lastore, 1) := by decide +kernel
theorem dL_stackSlot_10 : decode cL_stackSlot 10 = .ok (.goto 15, 3) := by decide +kernel
theorem dL_stackSlot_13 : decode cL_stackSlot 13 = .ok (.astore 4, 2) := by decide +kernel
theorem dL_stackSlot_15 : decode cL_stackSlot 15 = .ok (.iconst 1, 1) := by decide +kernel
theorem dL_stackSlot_16 : decode cL_stackSlot 16 = .ok (.ireturn, 1) := by decide +kernel
theorem dL_stackSlot_17 : decode cL_stackSlot 17 = .ok (.astore 4, 2) := by decide +kernel
theorem dL_stackSlot_19 : decode cL_stackSlot 19 = .ok (.iconst 2, 1) := by decide +kernel
theorem dL_stackSlot_20 : decode cL_stackSlot 20 = .ok (.ireturn, 1) := by decide +kernel
theorem dL_stackSlot_21 : decode cL_stackSlot 21 = .ok (.astore 4, 2) := by decide +kernel
theorem dL_stackSlot_23 : decode cL_stackSlot 23 = .ok (.iconst 3, 1) := by decide +kernel
theorem dL_stackSlot_24 : decode cL_stackSlot 24 = .ok (.ireturn, 1) := by decide +kernel
theorem dL_stackSlot_25 : decode cL_stackSlot 25 = .ok (.iconst 0, 1) := by decide +kernel
theorem dL_stackSlot_26 : decode cL_stackSlot 26 = .ok (.ireturn, 1) := by decide +kernel
theorem dL_localSlot_0 : decode cL_localSlot 0 = .ok (.aload_n 3, 1) := by decide +kernel
theorem dL_localSlot_1 : decode cL_localSlot 1 = .ok (.iconst 0, 1) := by decide +kernel
theorem dL_localSlot_2 : decode cL_localSlot 2 = .ok (.aload_n 0, 1) := by decide +kernel
theorem dL_localSlot_3 : decode cL_localSlot 3 = .ok (.iload_n 1, 1) := by decide +kernel
theorem dL_localSlot_4 : decode cL_localSlot 4 = .ok (.iload_n 2, 1) := by decide +kernel
theorem dL_localSlot_5 : decode cL_localSlot 5 = .ok (.invokevirtual 79, 3) := by decide +kernel
theorem dL_localSlot_8 : decode cL_localSlot 8 = .ok (.i2l, 1) := by decide +kernel
theorem dL_localSlot_9 : decode cL_localSlot 9 = .ok (.lastore, 1) := by decide +kernel
theorem dL_localSlot_10 : decode cL_localSlot 10 = .ok (.goto 15, 3) := by decide +kernel
theorem dL_localSlot_13 : decode cL_localSlot 13 = .ok (.astore 4, 2) := by decide +kernel
theorem dL_localSlot_15 : decode cL_localSlot 15 = .ok (.iconst 1, 1) := by decide +kernel
theorem dL_localSlot_16 : decode cL_localSlot 16 = .ok (.ireturn, 1) := by decide +kernel
theorem dL_localSlot_17 : decode cL_localSlot 17 = .ok (.astore 4, 2) := by decide +kernel
theorem dL_localSlot_19 : decode cL_localSlot 19 = .ok (.iconst 2, 1) := by decide +kernel
theorem dL_localSlot_20 : decode cL_localSlot 20 = .ok (.ireturn, 1) := by decide +kernel
theorem dL_localSlot_21 : decode cL_localSlot 21 = .ok (.astore 4, 2) := by decide +kernel
theorem dL_localSlot_23 : decode cL_localSlot 23 = .ok (.iconst 3, 1) := by decide +kernel
theorem dL_localSlot_24 : decode cL_localSlot 24 = .ok (.ireturn, 1) := by decide +kernel
theorem dL_localSlot_25 : decode cL_localSlot 25 = .ok (.iconst 0, 1) := by decide +kernel
theorem dL_localSlot_26 : decode cL_localSlot 26 = .ok (.ireturn, 1) := by decide +kernel
theorem dL_isMarked_0 : decode cL_isMarked 0 = .ok (.aload_n 2, 1) := by decide +kernel
theorem dL_isMarked_1 : decode cL_isMarked 1 = .ok (.iconst 0, 1) := by decide +kernel
theorem dL_isMarked_2 : decode cL_isMarked 2 = .ok (.aload_n 0, 1) := by decide +kernel
theorem dL_isMarked_3 : decode cL_isMarked 3 = .ok (.iload_n 1, 1) := by decide +kernel
theorem dL_isMarked_4 : decode cL_isMarked 4 = .ok (.invokevirtual 82, 3) := by decide +kernel
theorem dL_isMarked_7 : decode cL_isMarked 7 = .ok (.ifCond .eq 7, 3) := by decide +kernel
theorem dL_isMarked_10 : decode cL_isMarked 10 = .ok (.lconst 1, 1) := by decide +kernel
theorem dL_isMarked_11 : decode cL_isMarked 11 = .ok (.goto 4, 3) := by decide +kernel
theorem dL_isMarked_14 : decode cL_isMarked 14 = .ok (.lconst 0, 1) := by decide +kernel
theorem dL_isMarked_15 : decode cL_isMarked 15 = .ok (.lastore, 1) := by decide +kernel
theorem dL_isMarked_16 : decode cL_isMarked 16 = .ok (.goto 9, 3) := by decide +kernel
theorem dL_isMarked_19 : decode cL_isMarked 19 = .ok (.astore_n 3, 1) := by decide +kernel
theorem dL_isMarked_20 : decode cL_isMarked 20 = .ok (.iconst 1, 1) := by decide +kernel
theorem dL_isMarked_21 : decode cL_isMarked 21 = .ok (.ireturn, 1) := by decide +kernel
theorem dL_isMarked_22 : decode cL_isMarked 22 = .ok (.astore_n 3, 1) := by decide +kernel
theorem dL_isMarked_23 : decode cL_isMarked 23 = .ok (.iconst 2, 1) := by decide +kernel
theorem dL_isMarked_24 : decode cL_isMarked 24 = .ok (.ireturn, 1) := by decide +kernel
theorem dL_isMarked_25 : decode cL_isMarked 25 = .ok (.iconst 0, 1) := by decide +kernel
theorem dL_isMarked_26 : decode cL_isMarked 26 = .ok (.ireturn, 1) := by decide +kernel
theorem dL_law_0 : decode cL_law 0 = .ok (.new 8, 3) := by decide +kernel
theorem dL_law_3 : decode cL_law 3 = .ok (.dup, 1) := by decide +kernel
theorem dL_law_4 : decode cL_law 4 = .ok (.invokespecial 85, 3) := by decide +kernel
theorem dL_law_7 : decode cL_law 7 = .ok (.astore_n 1, 1) := by decide +kernel
theorem dL_law_8 : decode cL_law 8 = .ok (.new 86, 3) := by decide +kernel
theorem dL_law_11 : decode cL_law 11 = .ok (.dup, 1) := by decide +kernel
theorem dL_law_12 : decode cL_law 12 = .ok (.invokespecial 88, 3) := by decide +kernel
theorem dL_law_15 : decode cL_law 15 = .ok (.astore_n 2, 1) := by decide +kernel
theorem dL_law_16 : decode cL_law 16 = .ok (.iconst 1, 1) := by decide +kernel
theorem dL_law_17 : decode cL_law 17 = .ok (.newarray .long, 2) := by decide +kernel
theorem dL_law_19 : decode cL_law 19 = .ok (.astore_n 3, 1) := by decide +kernel
theorem dL_law_20 : decode cL_law 20 = .ok (.iconst 0, 1) := by decide +kernel
theorem dL_law_21 : decode cL_law 21 = .ok (.istore 4, 2) := by decide +kernel
theorem dL_law_23 : decode cL_law 23 = .ok (.iload 4, 2) := by decide +kernel
theorem dL_law_25 : decode cL_law 25 = .ok (.aload_n 0, 1) := by decide +kernel
theorem dL_law_26 : decode cL_law 26 = .ok (.arraylength, 1) := by decide +kernel
theorem dL_law_27 : decode cL_law 27 = .ok (.iconst 5, 1) := by decide +kernel
theorem dL_law_28 : decode cL_law 28 = .ok (.isub, 1) := by decide +kernel
theorem dL_law_29 : decode cL_law 29 = .ok (.if_icmp .gt 1495, 3) := by decide +kernel
theorem dL_law_32 : decode cL_law 32 = .ok (.aload_n 0, 1) := by decide +kernel
theorem dL_law_33 : decode cL_law 33 = .ok (.iload 4, 2) := by decide +kernel
theorem dL_law_35 : decode cL_law 35 = .ok (.iaload, 1) := by decide +kernel
theorem dL_law_36 : decode cL_law 36 = .ok (.bipush 31, 2) := by decide +kernel
theorem dL_law_38 : decode cL_law 38 = .ok (.iand, 1) := by decide +kernel
theorem dL_law_39 : decode cL_law 39 = .ok (.tableswitch 1479 0 23 #[109, 193, 261, 317, 397, 472, 540, 620, 688, 780, 793, 849, 905, 989, 1033, 1077, 1121, 1134, 1147, 1210, 1266, 1334, 1402, 1465], 109) := by decide +kernel
theorem dL_law_148 : decode cL_law 148 = .ok (.aload_n 1, 1) := by decide +kernel
theorem dL_law_149 : decode cL_law 149 = .ok (.aload_n 0, 1) := by decide +kernel
theorem dL_law_150 : decode cL_law 150 = .ok (.iload 4, 2) := by decide +kernel
theorem dL_law_152 : decode cL_law 152 = .ok (.iconst 1, 1) := by decide +kernel
theorem dL_law_153 : decode cL_law 153 = .ok (.iadd, 1) := by decide +kernel
theorem dL_law_154 : decode cL_law 154 = .ok (.iaload, 1) := by decide +kernel
theorem dL_law_155 : decode cL_law 155 = .ok (.aload_n 0, 1) := by decide +kernel
theorem dL_law_156 : decode cL_law 156 = .ok (.iload 4, 2) := by decide +kernel
theorem dL_law_158 : decode cL_law 158 = .ok (.iconst 2, 1) := by decide +kernel
theorem dL_law_159 : decode cL_law 159 = .ok (.iadd, 1) := by decide +kernel
theorem dL_law_160 : decode cL_law 160 = .ok (.iaload, 1) := by decide +kernel
theorem dL_law_161 : decode cL_law 161 = .ok (.ifCond .eq 7, 3) := by decide +kernel
theorem dL_law_164 : decode cL_law 164 = .ok (.iconst 1, 1) := by decide +kernel
theorem dL_law_165 : decode cL_law 165 = .ok (.goto 4, 3) := by decide +kernel
theorem dL_law_168 : decode cL_law 168 = .ok (.iconst 0, 1) := by decide +kernel
theorem dL_law_169 : decode cL_law 169 = .ok (.aload_n 3, 1) := by decide +kernel
theorem dL_law_170 : decode cL_law 170 = .ok (.invokestatic 89, 3) := by decide +kernel
theorem dL_law_173 : decode cL_law 173 = .ok (.istore 5, 2) := by decide +kernel
theorem dL_law_175 : decode cL_law 175 = .ok (.aload_n 2, 1) := by decide +kernel
theorem dL_law_176 : decode cL_law 176 = .ok (.aload_n 0, 1) := by decide +kernel
theorem dL_law_177 : decode cL_law 177 = .ok (.iload 4, 2) := by decide +kernel
theorem dL_law_179 : decode cL_law 179 = .ok (.iconst 1, 1) := by decide +kernel
theorem dL_law_180 : decode cL_law 180 = .ok (.iadd, 1) := by decide +kernel
theorem dL_law_181 : decode cL_law 181 = .ok (.iaload, 1) := by decide +kernel
theorem dL_law_182 : decode cL_law 182 = .ok (.aload_n 0, 1) := by decide +kernel
theorem dL_law_183 : decode cL_law 183 = .ok (.iload 4, 2) := by decide +kernel
theorem dL_law_185 : decode cL_law 185 = .ok (.iconst 2, 1) := by decide +kernel
theorem dL_law_186 : decode cL_law 186 = .ok (.iadd, 1) := by decide +kernel
theorem dL_law_187 : decode cL_law 187 = .ok (.iaload, 1) := by decide +kernel
theorem dL_law_188 : decode cL_law 188 = .ok (.ifCond .eq 7, 3) := by decide +kernel
theorem dL_law_191 : decode cL_law 191 = .ok (.iconst 1, 1) := by decide +kernel
theorem dL_law_192 : decode cL_law 192 = .ok (.goto 4, 3) := by decide +kernel
theorem dL_law_195 : decode cL_law 195 = .ok (.iconst 0, 1) := by decide +kernel
theorem dL_law_196 : decode cL_law 196 = .ok (.invokevirtual 94, 3) := by decide +kernel
theorem dL_law_199 : decode cL_law 199 = .ok (.istore 6, 2) := by decide +kernel
theorem dL_law_201 : decode cL_law 201 = .ok (.aload_n 2, 1) := by decide +kernel
theorem dL_law_202 : decode cL_law 202 = .ok (.invokevirtual 95, 3) := by decide +kernel
theorem dL_law_205 : decode cL_law 205 = .ok (.iload 5, 2) := by decide +kernel
theorem dL_law_207 : decode cL_law 207 = .ok (.if_icmp .eq 5, 3) := by decide +kernel
theorem dL_law_210 : decode cL_law 210 = .ok (.iconst 0, 1) := by decide +kernel
theorem dL_law_211 : decode cL_law 211 = .ok (.ireturn, 1) := by decide +kernel
theorem dL_law_212 : decode cL_law 212 = .ok (.iload 5, 2) := by decide +kernel
theorem dL_law_214 : decode cL_law 214 = .ok (.ifCond .ne 15, 3) := by decide +kernel
theorem dL_law_217 : decode cL_law 217 = .ok (.aload_n 3, 1) := by decide +kernel
theorem dL_law_218 : decode cL_law 218 = .ok (.iconst 0, 1) := by decide +kernel
theorem dL_law_219 : decode cL_law 219 = .ok (.laload, 1) := by decide +kernel
theorem dL_law_220 : decode cL_law 220 = .ok (.iload 6, 2) := by decide +kernel
theorem dL_law_222 : decode cL_law 222 = .ok (.i2l, 1) := by decide +kernel
theorem dL_law_223 : decode cL_law 223 = .ok (.lcmp, 1) := by decide +kernel
theorem dL_law_224 : decode cL_law 224 = .ok (.ifCond .eq 5, 3) := by decide +kernel
theorem dL_law_227 : decode cL_law 227 = .ok (.iconst 0, 1) := by decide +kernel
theorem dL_law_228 : decode cL_law 228 = .ok (.ireturn, 1) := by decide +kernel
theorem dL_law_229 : decode cL_law 229 = .ok (.goto 1289, 3) := by decide +kernel
theorem dL_law_232 : decode cL_law 232 = .ok (.aload_n 1, 1) := by decide +kernel
theorem dL_law_233 : decode cL_law 233 = .ok (.aload_n 0, 1) := by decide +kernel
theorem dL_law_234 : decode cL_law 234 = .ok (.iload 4, 2) := by decide +kernel
theorem dL_law_236 : decode cL_law 236 = .ok (.iconst 1, 1) := by decide +kernel
theorem dL_law_237 : decode cL_law 237 = .ok (.iadd, 1) := by decide +kernel
theorem dL_law_238 : decode cL_law 238 = .ok (.iaload, 1) := by decide +kernel
theorem dL_law_239 : decode cL_law 239 = .ok (.aload_n 0, 1) := by decide +kernel
theorem dL_law_240 : decode cL_law 240 = .ok (.iload 4, 2) := by decide +kernel
theorem dL_law_242 : decode cL_law 242 = .ok (.iconst 2, 1) := by decide +kernel
theorem dL_law_243 : decode cL_law 243 = .ok (.iadd, 1) := by decide +kernel
theorem dL_law_244 : decode cL_law 244 = .ok (.iaload, 1) := by decide +kernel
theorem dL_law_245 : decode cL_law 245 = .ok (.aload_n 3, 1) := by decide +kernel
theorem dL_law_246 : decode cL_law 246 = .ok (.invokestatic 98, 3) := by decide +kernel
theorem dL_law_249 : decode cL_law 249 = .ok (.istore 5, 2) := by decide +kernel
theorem dL_law_251 : decode cL_law 251 = .ok (.aload_n 2, 1) := by decide +kernel
theorem dL_law_252 : decode cL_law 252 = .ok (.aload_n 0, 1) := by decide +kernel
theorem dL_law_253 : decode cL_law 253 = .ok (.iload 4, 2) := by decide +kernel
theorem dL_law_255 : decode cL_law 255 = .ok (.iconst 1, 1) := by decide +kernel
theorem dL_law_256 : decode cL_law 256 = .ok (.iadd, 1) := by decide +kernel
theorem dL_law_257 : decode cL_law 257 = .ok (.iaload, 1) := by decide +kernel
theorem dL_law_258 : decode cL_law 258 = .ok (.aload_n 0, 1) := by decide +kernel
theorem dL_law_259 : decode cL_law 259 = .ok (.iload 4, 2) := by decide +kernel
theorem dL_law_261 : decode cL_law 261 = .ok (.iconst 2, 1) := by decide +kernel
theorem dL_law_262 : decode cL_law 262 = .ok (.iadd, 1) := by decide +kernel
theorem dL_law_263 : decode cL_law 263 = .ok (.iaload, 1) := by decide +kernel
theorem dL_law_264 : decode cL_law 264 = .ok (.invokevirtual 101, 3) := by decide +kernel
theorem dL_law_267 : decode cL_law 267 = .ok (.istore 6, 2) := by decide +kernel
theorem dL_law_269 : decode cL_law 269 = .ok (.aload_n 2, 1) := by decide +kernel
theorem dL_law_270 : decode cL_law 270 = .ok (.invokevirtual 95, 3) := by decide +kernel
theorem dL_law_273 : decode cL_law 273 = .ok (.iload 5, 2) := by decide +kernel
theorem dL_law_275 : decode cL_law 275 = .ok (.if_icmp .eq 5, 3) := by decide +kernel
theorem dL_law_278 : decode cL_law 278 = .ok (.iconst 0, 1) := by decide +kernel
theorem dL_law_279 : decode cL_law 279 = .ok (.ireturn, 1) := by decide +kernel
theorem dL_law_280 : decode cL_law 280 = .ok (.iload 5, 2) := by decide +kernel
theorem dL_law_282 : decode cL_law 282 = .ok (.ifCond .ne 15, 3) := by decide +kernel
theorem dL_law_285 : decode cL_law 285 = .ok (.aload_n 3, 1) := by decide +kernel
theorem dL_law_286 : decode cL_law 286 = .ok (.iconst 0, 1) := by decide +kernel
theorem dL_law_287 : decode cL_law 287 = .ok (.laload, 1) := by decide +kernel
theorem dL_law_288 : decode cL_law 288 = .ok (.iload 6, 2) := by decide +kernel
theorem dL_law_290 : decode cL_law 290 = .ok (.i2l, 1) := by decide +kernel
theorem dL_law_291 : decode cL_law 291 = .ok (.lcmp, 1) := by decide +kernel
theorem dL_law_292 : decode cL_law 292 = .ok (.ifCond .eq 5, 3) := by decide +kernel
theorem dL_law_295 : decode cL_law 295 = .ok (.iconst 0, 1) := by decide +kernel
theorem dL_law_296 : decode cL_law 296 = .ok (.ireturn, 1) := by decide +kernel
theorem dL_law_297 : decode cL_law 297 = .ok (.goto 1221, 3) := by decide +kernel
theorem dL_law_300 : decode cL_law 300 = .ok (.aload_n 1, 1) := by decide +kernel
theorem dL_law_301 : decode cL_law 301 = .ok (.aload_n 0, 1) := by decide +kernel
theorem dL_law_302 : decode cL_law 302 = .ok (.iload 4, 2) := by decide +kernel
theorem dL_law_304 : decode cL_law 304 = .ok (.iconst 1, 1) := by decide +kernel
theorem dL_law_305 : decode cL_law 305 = .ok (.iadd, 1) := by decide +kernel
theorem dL_law_306 : decode cL_law 306 = .ok (.iaload, 1) := by decide +kernel
theorem dL_law_307 : decode cL_law 307 = .ok (.aload_n 3, 1) := by decide +kernel
theorem dL_law_308 : decode cL_law 308 = .ok (.invokestatic 102, 3) := by decide +kernel
theorem dL_law_311 : decode cL_law 311 = .ok (.istore 5, 2) := by decide +kernel
theorem dL_law_313 : decode cL_law 313 = .ok (.aload_n 2, 1) := by decide +kernel
theorem dL_law_314 : decode cL_law 314 = .ok (.aload_n 0, 1) := by decide +kernel
theorem dL_law_315 : decode cL_law 315 = .ok (.iload 4, 2) := by decide +kernel
theorem dL_law_317 : decode cL_law 317 = .ok (.iconst 1, 1) := by decide +kernel
theorem dL_law_318 : decode cL_law 318 = .ok (.iadd, 1) := by decide +kernel
theorem dL_law_319 : decode cL_law 319 = .ok (.iaload, 1) := by decide +kernel
theorem dL_law_320 : decode cL_law 320 = .ok (.invokevirtual 105, 3) := by decide +kernel
theorem dL_law_323 : decode cL_law 323 = .ok (.istore 6, 2) := by decide +kernel
theorem dL_law_325 : decode cL_law 325 = .ok (.aload_n 2, 1) := by decide +kernel
theorem dL_law_326 : decode cL_law 326 = .ok (.invokevirtual 95, 3) := by decide +kernel
theorem dL_law_329 : decode cL_law 329 = .ok (.iload 5, 2) := by decide +kernel
theorem dL_law_331 : decode cL_law 331 = .ok (.if_icmp .eq 5, 3) := by decide +kernel
theorem dL_law_334 : decode cL_law 334 = .ok (.iconst 0, 1) := by decide +kernel
theorem dL_law_335 : decode cL_law 335 = .ok (.ireturn, 1) := by decide +kernel
theorem dL_law_336 : decode cL_law 336 = .ok (.iload 5, 2) := by decide +kernel
theorem dL_law_338 : decode cL_law 338 = .ok (.ifCond .ne 15, 3) := by decide +kernel
theorem dL_law_341 : decode cL_law 341 = .ok (.aload_n 3, 1) := by decide +kernel
theorem dL_law_342 : decode cL_law 342 = .ok (.iconst 0, 1) := by decide +kernel
theorem dL_law_343 : decode cL_law 343 = .ok (.laload, 1) := by decide +kernel
theorem dL_law_344 : decode cL_law 344 = .ok (.iload 6, 2) := by decide +kernel
theorem dL_law_346 : decode cL_law 346 = .ok (.i2l, 1) := by decide +kernel
theorem dL_law_347 : decode cL_law 347 = .ok (.lcmp, 1) := by decide +kernel
theorem dL_law_348 : decode cL_law 348 = .ok (.ifCond .eq 5, 3) := by decide +kernel
theorem dL_law_351 : decode cL_law 351 = .ok (.iconst 0, 1) := by decide +kernel
theorem dL_law_352 : decode cL_law 352 = .ok (.ireturn, 1) := by decide +kernel
theorem dL_law_353 : decode cL_law 353 = .ok (.goto 1165, 3) := by decide +kernel
theorem dL_law_356 : decode cL_law 356 = .ok (.aload_n 1, 1) := by decide +kernel
theorem dL_law_357 : decode cL_law 357 = .ok (.aload_n 0, 1) := by decide +kernel
theorem dL_law_358 : decode cL_law 358 = .ok (.iload 4, 2) := by decide +kernel
theorem dL_law_360 : decode cL_law 360 = .ok (.iconst 1, 1) := by decide +kernel
theorem dL_law_361 : decode cL_law 361 = .ok (.iadd, 1) := by decide +kernel
theorem dL_law_362 : decode cL_law 362 = .ok (.iaload, 1) := by decide +kernel
theorem dL_law_363 : decode cL_law 363 = .ok (.aload_n 0, 1) := by decide +kernel
theorem dL_law_364 : decode cL_law 364 = .ok (.iload 4, 2) := by decide +kernel
theorem dL_law_366 : decode cL_law 366 = .ok (.iconst 2, 1) := by decide +kernel
theorem dL_law_367 : decode cL_law 367 = .ok (.iadd, 1) := by decide +kernel
theorem dL_law_368 : decode cL_law 368 = .ok (.iaload, 1) := by decide +kernel
theorem dL_law_369 : decode cL_law 369 = .ok (.aload_n 0, 1) := by decide +kernel
theorem dL_law_370 : decode cL_law 370 = .ok (.iload 4, 2) := by decide +kernel
theorem dL_law_372 : decode cL_law 372 = .ok (.iconst 3, 1) := by decide +kernel
theorem dL_law_373 : decode cL_law 373 = .ok (.iadd, 1) := by decide +kernel
theorem dL_law_374 : decode cL_law 374 = .ok (.iaload, 1) := by decide +kernel
theorem dL_law_375 : decode cL_law 375 = .ok (.aload_n 3, 1) := by decide +kernel
theorem dL_law_376 : decode cL_law 376 = .ok (.invokestatic 106, 3) := by decide +kernel
theorem dL_law_379 : decode cL_law 379 = .ok (.istore 5, 2) := by decide +kernel
theorem dL_law_381 : decode cL_law 381 = .ok (.aload_n 2, 1) := by decide +kernel
theorem dL_law_382 : decode cL_law 382 = .ok (.aload_n 0, 1) := by decide +kernel
theorem dL_law_383 : decode cL_law 383 = .ok (.iload 4, 2) := by decide +kernel
theorem dL_law_385 : decode cL_law 385 = .ok (.iconst 1, 1) := by decide +kernel
theorem dL_law_386 : decode cL_law 386 = .ok (.iadd, 1) := by decide +kernel
theorem dL_law_387 : decode cL_law 387 = .ok (.iaload, 1) := by decide +kernel
theorem dL_law_388 : decode cL_law 388 = .ok (.aload_n 0, 1) := by decide +kernel
theorem dL_law_389 : decode cL_law 389 = .ok (.iload 4, 2) := by decide +kernel
theorem dL_law_391 : decode cL_law 391 = .ok (.iconst 2, 1) := by decide +kernel
theorem dL_law_392 : decode cL_law 392 = .ok (.iadd, 1) := by decide +kernel
theorem dL_law_393 : decode cL_law 393 = .ok (.iaload, 1) := by decide +kernel
theorem dL_law_394 : decode cL_law 394 = .ok (.aload_n 0, 1) := by decide +kernel
theorem dL_law_395 : decode cL_law 395 = .ok (.iload 4, 2) := by decide +kernel
theorem dL_law_397 : decode cL_law 397 = .ok (.iconst 3, 1) := by decide +kernel
theorem dL_law_398 : decode cL_law 398 = .ok (.iadd, 1) := by decide +kernel
theorem dL_law_399 : decode cL_law 399 = .ok (.iaload, 1) := by decide +kernel
theorem dL_law_400 : decode cL_law 400 = .ok (.invokevirtual 109, 3) := by decide +kernel
theorem dL_law_403 : decode cL_law 403 = .ok (.istore 6, 2) := by decide +kernel
theorem dL_law_405 : decode cL_law 405 = .ok (.aload_n 2, 1) := by decide +kernel
theorem dL_law_406 : decode cL_law 406 = .ok (.invokevirtual 95, 3) := by decide +kernel
theorem dL_law_409 : decode cL_law 409 = .ok (.iload 5, 2) := by decide +kernel
theorem dL_law_411 : decode cL_law 411 = .ok (.if_icmp .eq 5, 3) := by decide +kernel
theorem dL_law_414 : decode cL_law 414 = .ok (.iconst 0, 1) := by decide +kernel
theorem dL_law_415 : decode cL_law 415 = .ok (.ireturn, 1) := by decide +kernel
theorem dL_law_416 : decode cL_law 416 = .ok (.iload 5, 2) := by decide +kernel
theorem dL_law_418 : decode cL_law 418 = .ok (.ifCond .ne 15, 3) := by decide +kernel
theorem dL_law_421 : decode cL_law 421 = .ok (.aload_n 3, 1) := by decide +kernel
theorem dL_law_422 : decode cL_law 422 = .ok (.iconst 0, 1) := by decide +kernel
theorem dL_law_423 : decode cL_law 423 = .ok (.laload, 1) := by decide +kernel
theorem dL_law_424 : decode cL_law 424 = .ok (.iload 6, 2) := by decide +kernel
theorem dL_law_426 : decode cL_law 426 = .ok (.i2l, 1) := by decide +kernel
theorem dL_law_427 : decode cL_law 427 = .ok (.lcmp, 1) := by decide +kernel
theorem dL_law_428 : decode cL_law 428 = .ok (.ifCond .eq 5, 3) := by decide +kernel
theorem dL_law_431 : decode cL_law 431 = .ok (.iconst 0, 1) := by decide +kernel
theorem dL_law_432 : decode cL_law 432 = .ok (.ireturn, 1) := by decide +kernel
theorem dL_law_433 : decode cL_law 433 = .ok (.goto 1085, 3) := by decide +kernel
theorem dL_law_436 : decode cL_law 436 = .ok (.aload_n 1, 1) := by decide +kernel
theorem dL_law_437 : decode cL_law 437 = .ok (.aload_n 0, 1) := by decide +kernel
theorem dL_law_438 : decode cL_law 438 = .ok (.iload 4, 2) := by decide +kernel
theorem dL_law_440 : decode cL_law 440 = .ok (.iconst 1, 1) := by decide +kernel
theorem dL_law_441 : decode cL_law 441 = .ok (.iadd, 1) := by decide +kernel
theorem dL_law_442 : decode cL_law 442 = .ok (.iaload, 1) := by decide +kernel
theorem dL_law_443 : decode cL_law 443 = .ok (.aload_n 0, 1) := by decide +kernel
theorem dL_law_444 : decode cL_law 444 = .ok (.iload 4, 2) := by decide +kernel
theorem dL_law_446 : decode cL_law 446 = .ok (.iconst 2, 1) := by decide +kernel
theorem dL_law_447 : decode cL_law 447 = .ok (.iadd, 1) := by decide +kernel
theorem dL_law_448 : decode cL_law 448 = .ok (.iaload, 1) := by decide +kernel
theorem dL_law_449 : decode cL_law 449 = .ok (.aload_n 3, 1) := by decide +kernel
theorem dL_law_450 : decode cL_law 450 = .ok (.invokestatic 110, 3) := by decide +kernel
theorem dL_law_453 : decode cL_law 453 = .ok (.istore 5, 2) := by decide +kernel
theorem dL_law_455 : decode cL_law 455 = .ok (.aload_n 2, 1) := by decide +kernel
theorem dL_law_456 : decode cL_law 456 = .ok (.aload_n 0, 1) := by decide +kernel
theorem dL_law_457 : decode cL_law 457 = .ok (.iload 4, 2) := by decide +kernel
theorem dL_law_459 : decode cL_law 459 = .ok (.iconst 1, 1) := by decide +kernel
theorem dL_law_460 : decode cL_law 460 = .ok (.iadd, 1) := by decide +kernel
theorem dL_law_461 : decode cL_law 461 = .ok (.iaload, 1) := by decide +kernel
theorem dL_law_462 : decode cL_law 462 = .ok (.aload_n 0, 1) := by decide +kernel
theorem dL_law_463 : decode cL_law 463 = .ok (.iload 4, 2) := by decide +kernel
theorem dL_law_465 : decode cL_law 465 = .ok (.iconst 2, 1) := by decide +kernel
theorem dL_law_466 : decode cL_law 466 = .ok (.iadd, 1) := by decide +kernel
theorem dL_law_467 : decode cL_law 467 = .ok (.iaload, 1) := by decide +kernel
theorem dL_law_468 : decode cL_law 468 = .ok (.invokevirtual 112, 3) := by decide +kernel
theorem dL_law_471 : decode cL_law 471 = .ok (.istore 6, 2) := by decide +kernel
theorem dL_law_473 : decode cL_law 473 = .ok (.aload_n 2, 1) := by decide +kernel
theorem dL_law_474 : decode cL_law 474 = .ok (.invokevirtual 95, 3) := by decide +kernel
theorem dL_law_477 : decode cL_law 477 = .ok (.iload 5, 2) := by decide +kernel
theorem dL_law_479 : decode cL_law 479 = .ok (.if_icmp .eq 5, 3) := by decide +kernel
theorem dL_law_482 : decode cL_law 482 = .ok (.iconst 0, 1) := by decide +kernel
theorem dL_law_483 : decode cL_law 483 = .ok (.ireturn, 1) := by decide +kernel
theorem dL_law_484 : decode cL_law 484 = .ok (.iload 5, 2) := by decide +kernel
theorem dL_law_486 : decode cL_law 486 = .ok (.ifCond .ne 22, 3) := by decide +kernel
theorem dL_law_489 : decode cL_law 489 = .ok (.aload_n 3, 1) := by decide +kernel
theorem dL_law_490 : decode cL_law 490 = .ok (.iconst 0, 1) := by decide +kernel
theorem dL_law_491 : decode cL_law 491 = .ok (.laload, 1) := by decide +kernel
theorem dL_law_492 : decode cL_law 492 = .ok (.iload 6, 2) := by decide +kernel
theorem dL_law_494 : decode cL_law 494 = .ok (.ifCond .eq 7, 3) := by decide +kernel
theorem dL_law_497 : decode cL_law 497 = .ok (.lconst 1, 1) := by decide +kernel
theorem dL_law_498 : decode cL_law 498 = .ok (.goto 4, 3) := by decide +kernel
theorem dL_law_501 : decode cL_law 501 = .ok (.lconst 0, 1) := by decide +kernel
theorem dL_law_502 : decode cL_law 502 = .ok (.lcmp, 1) := by decide +kernel
theorem dL_law_503 : decode cL_law 503 = .ok (.ifCond .eq 5, 3) := by decide +kernel
theorem dL_law_506 : decode cL_law 506 = .ok (.iconst 0, 1) := by decide +kernel
theorem dL_law_507 : decode cL_law 507 = .ok (.ireturn, 1) := by decide +kernel
theorem dL_law_508 : decode cL_law 508 = .ok (.goto 1010, 3) := by decide +kernel
theorem dL_law_511 : decode cL_law 511 = .ok (.aload_n 1, 1) := by decide +kernel
theorem dL_law_512 : decode cL_law 512 = .ok (.aload_n 0, 1) := by decide +kernel
theorem dL_law_513 : decode cL_law 513 = .ok (.iload 4, 2) := by decide +kernel
theorem dL_law_515 : decode cL_law 515 = .ok (.iconst 1, 1) := by decide +kernel
theorem dL_law_516 : decode cL_law 516 = .ok (.iadd, 1) := by decide +kernel
theorem dL_law_517 : decode cL_law 517 = .ok (.iaload, 1) := by decide +kernel
theorem dL_law_518 : decode cL_law 518 = .ok (.aload_n 0, 1) := by decide +kernel
theorem dL_law_519 : decode cL_law 519 = .ok (.iload 4, 2) := by decide +kernel
theorem dL_law_521 : decode cL_law 521 = .ok (.iconst 2, 1) := by decide +kernel
theorem dL_law_522 : decode cL_law 522 = .ok (.iadd, 1) := by decide +kernel
theorem dL_law_523 : decode cL_law 523 = .ok (.iaload, 1) := by decide +kernel
theorem dL_law_524 : decode cL_law 524 = .ok (.aload_n 3, 1) := by decide +kernel
theorem dL_law_525 : decode cL_law 525 = .ok (.invokestatic 113, 3) := by decide +kernel
theorem dL_law_528 : decode cL_law 528 = .ok (.istore 5, 2) := by decide +kernel
theorem dL_law_530 : decode cL_law 530 = .ok (.aload_n 2, 1) := by decide +kernel
theorem dL_law_531 : decode cL_law 531 = .ok (.aload_n 0, 1) := by decide +kernel
theorem dL_law_532 : decode cL_law 532 = .ok (.iload 4, 2) := by decide +kernel
theorem dL_law_534 : decode cL_law 534 = .ok (.iconst 1, 1) := by decide +kernel
theorem dL_law_535 : decode cL_law 535 = .ok (.iadd, 1) := by decide +kernel
theorem dL_law_536 : decode cL_law 536 = .ok (.iaload, 1) := by decide +kernel
theorem dL_law_537 : decode cL_law 537 = .ok (.aload_n 0, 1) := by decide +kernel
theorem dL_law_538 : decode cL_law 538 = .ok (.iload 4, 2) := by decide +kernel
theorem dL_law_540 : decode cL_law 540 = .ok (.iconst 2, 1) := by decide +kernel
theorem dL_law_541 : decode cL_law 541 = .ok (.iadd, 1) := by decide +kernel
theorem dL_law_542 : decode cL_law 542 = .ok (.iaload, 1) := by decide +kernel
theorem dL_law_543 : decode cL_law 543 = .ok (.invokevirtual 115, 3) := by decide +kernel
theorem dL_law_546 : decode cL_law 546 = .ok (.istore 6, 2) := by decide +kernel
theorem dL_law_548 : decode cL_law 548 = .ok (.aload_n 2, 1) := by decide +kernel
theorem dL_law_549 : decode cL_law 549 = .ok (.invokevirtual 95, 3) := by decide +kernel
theorem dL_law_552 : decode cL_law 552 = .ok (.iload 5, 2) := by decide +kernel
theorem dL_law_554 : decode cL_law 554 = .ok (.if_icmp .eq 5, 3) := by decide +kernel
theorem dL_law_557 : decode cL_law 557 = .ok (.iconst 0, 1) := by decide +kernel
theorem dL_law_558 : decode cL_law 558 = .ok (.ireturn, 1) := by decide +kernel
theorem dL_law_559 : decode cL_law 559 = .ok (.iload 5, 2) := by decide +kernel
theorem dL_law_561 : decode cL_law 561 = .ok (.ifCond .ne 15, 3) := by decide +kernel
theorem dL_law_564 : decode cL_law 564 = .ok (.aload_n 3, 1) := by decide +kernel
theorem dL_law_565 : decode cL_law 565 = .ok (.iconst 0, 1) := by decide +kernel
theorem dL_law_566 : decode cL_law 566 = .ok (.laload, 1) := by decide +kernel
theorem dL_law_567 : decode cL_law 567 = .ok (.iload 6, 2) := by decide +kernel
theorem dL_law_569 : decode cL_law 569 = .ok (.i2l, 1) := by decide +kernel
theorem dL_law_570 : decode cL_law 570 = .ok (.lcmp, 1) := by decide +kernel
theorem dL_law_571 : decode cL_law 571 = .ok (.ifCond .eq 5, 3) := by decide +kernel
theorem dL_law_574 : decode cL_law 574 = .ok (.iconst 0, 1) := by decide +kernel
theorem dL_law_575 : decode cL_law 575 = .ok (.ireturn, 1) := by decide +kernel
theorem dL_law_576 : decode cL_law 576 = .ok (.goto 942, 3) := by decide +kernel
theorem dL_law_579 : decode cL_law 579 = .ok (.aload_n 1, 1) := by decide +kernel
theorem dL_law_580 : decode cL_law 580 = .ok (.aload_n 0, 1) := by decide +kernel
theorem dL_law_581 : decode cL_law 581 = .ok (.iload 4, 2) := by decide +kernel
theorem dL_law_583 : decode cL_law 583 = .ok (.iconst 1, 1) := by decide +kernel
theorem dL_law_584 : decode cL_law 584 = .ok (.iadd, 1) := by decide +kernel
theorem dL_law_585 : decode cL_law 585 = .ok (.iaload, 1) := by decide +kernel
theorem dL_law_586 : decode cL_law 586 = .ok (.aload_n 0, 1) := by decide +kernel
theorem dL_law_587 : decode cL_law 587 = .ok (.iload 4, 2) := by decide +kernel
theorem dL_law_589 : decode cL_law 589 = .ok (.iconst 2, 1) := by decide +kernel
theorem dL_law_590 : decode cL_law 590 = .ok (.iadd, 1) := by decide +kernel
theorem dL_law_591 : decode cL_law 591 = .ok (.iaload, 1) := by decide +kernel
theorem dL_law_592 : decode cL_law 592 = .ok (.aload_n 0, 1) := by decide +kernel
theorem dL_law_593 : decode cL_law 593 = .ok (.iload 4, 2) := by decide +kernel
theorem dL_law_595 : decode cL_law 595 = .ok (.iconst 3, 1) := by decide +kernel
theorem dL_law_596 : decode cL_law 596 = .ok (.iadd, 1) := by decide +kernel
theorem dL_law_597 : decode cL_law 597 = .ok (.iaload, 1) := by decide +kernel
theorem dL_law_598 : decode cL_law 598 = .ok (.aload_n 3, 1) := by decide +kernel
theorem dL_law_599 : decode cL_law 599 = .ok (.invokestatic 116, 3) := by decide +kernel
theorem dL_law_602 : decode cL_law 602 = .ok (.istore 5, 2) := by decide +kernel
theorem dL_law_604 : decode cL_law 604 = .ok (.aload_n 2, 1) := by decide +kernel
theorem dL_law_605 : decode cL_law 605 = .ok (.aload_n 0, 1) := by decide +kernel
theorem dL_law_606 : decode cL_law 606 = .ok (.iload 4, 2) := by decide +kernel
theorem dL_law_608 : decode cL_law 608 = .ok (.iconst 1, 1) := by decide +kernel
theorem dL_law_609 : decode cL_law 609 = .ok (.iadd, 1) := by decide +kernel
theorem dL_law_610 : decode cL_law 610 = .ok (.iaload, 1) := by decide +kernel
theorem dL_law_611 : decode cL_law 611 = .ok (.aload_n 0, 1) := by decide +kernel
theorem dL_law_612 : decode cL_law 612 = .ok (.iload 4, 2) := by decide +kernel
theorem dL_law_614 : decode cL_law 614 = .ok (.iconst 2, 1) := by decide +kernel
theorem dL_law_615 : decode cL_law 615 = .ok (.iadd, 1) := by decide +kernel
theorem dL_law_616 : decode cL_law 616 = .ok (.iaload, 1) := by decide +kernel
theorem dL_law_617 : decode cL_law 617 = .ok (.aload_n 0, 1) := by decide +kernel
theorem dL_law_618 : decode cL_law 618 = .ok (.iload 4, 2) := by decide +kernel
theorem dL_law_620 : decode cL_law 620 = .ok (.iconst 3, 1) := by decide +kernel
theorem dL_law_621 : decode cL_law 621 = .ok (.iadd, 1) := by decide +kernel
theorem dL_law_622 : decode cL_law 622 = .ok (.iaload, 1) := by decide +kernel
theorem dL_law_623 : decode cL_law 623 = .ok (.invokevirtual 118, 3) := by decide +kernel
theorem dL_law_626 : decode cL_law 626 = .ok (.istore 6, 2) := by decide +kernel
theorem dL_law_628 : decode cL_law 628 = .ok (.aload_n 2, 1) := by decide +kernel
theorem dL_law_629 : decode cL_law 629 = .ok (.invokevirtual 95, 3) := by decide +kernel
theorem dL_law_632 : decode cL_law 632 = .ok (.iload 5, 2) := by decide +kernel
theorem dL_law_634 : decode cL_law 634 = .ok (.if_icmp .eq 5, 3) := by decide +kernel
theorem dL_law_637 : decode cL_law 637 = .ok (.iconst 0, 1) := by decide +kernel
theorem dL_law_638 : decode cL_law 638 = .ok (.ireturn, 1) := by decide +kernel
theorem dL_law_639 : decode cL_law 639 = .ok (.iload 5, 2) := by decide +kernel
theorem dL_law_641 : decode cL_law 641 = .ok (.ifCond .ne 15, 3) := by decide +kernel
theorem dL_law_644 : decode cL_law 644 = .ok (.aload_n 3, 1) := by decide +kernel
theorem dL_law_645 : decode cL_law 645 = .ok (.iconst 0, 1) := by decide +kernel
theorem dL_law_646 : decode cL_law 646 = .ok (.laload, 1) := by decide +kernel
theorem dL_law_647 : decode cL_law 647 = .ok (.iload 6, 2) := by decide +kernel
theorem dL_law_649 : decode cL_law 649 = .ok (.i2l, 1) := by decide +kernel
theorem dL_law_650 : decode cL_law 650 = .ok (.lcmp, 1) := by decide +kernel
theorem dL_law_651 : decode cL_law 651 = .ok (.ifCond .eq 5, 3) := by decide +kernel
theorem dL_law_654 : decode cL_law 654 = .ok (.iconst 0, 1) := by decide +kernel
theorem dL_law_655 : decode cL_law 655 = .ok (.ireturn, 1) := by decide +kernel
theorem dL_law_656 : decode cL_law 656 = .ok (.goto 862, 3) := by decide +kernel
theorem dL_law_659 : decode cL_law 659 = .ok (.aload_n 1, 1) := by decide +kernel
theorem dL_law_660 : decode cL_law 660 = .ok (.aload_n 0, 1) := by decide +kernel
theorem dL_law_661 : decode cL_law 661 = .ok (.iload 4, 2) := by decide +kernel
theorem dL_law_663 : decode cL_law 663 = .ok (.iconst 1, 1) := by decide +kernel
theorem dL_law_664 : decode cL_law 664 = .ok (.iadd, 1) := by decide +kernel
theorem dL_law_665 : decode cL_law 665 = .ok (.iaload, 1) := by decide +kernel
theorem dL_law_666 : decode cL_law 666 = .ok (.aload_n 0, 1) := by decide +kernel
theorem dL_law_667 : decode cL_law 667 = .ok (.iload 4, 2) := by decide +kernel
theorem dL_law_669 : decode cL_law 669 = .ok (.iconst 2, 1) := by decide +kernel
theorem dL_law_670 : decode cL_law 670 = .ok (.iadd, 1) := by decide +kernel
theorem dL_law_671 : decode cL_law 671 = .ok (.iaload, 1) := by decide +kernel
theorem dL_law_672 : decode cL_law 672 = .ok (.aload_n 3, 1) := by decide +kernel
theorem dL_law_673 : decode cL_law 673 = .ok (.invokestatic 119, 3) := by decide +kernel
theorem dL_law_676 : decode cL_law 676 = .ok (.istore 5, 2) := by decide +kernel
theorem dL_law_678 : decode cL_law 678 = .ok (.aload_n 2, 1) := by decide +kernel
theorem dL_law_679 : decode cL_law 679 = .ok (.aload_n 0, 1) := by decide +kernel
theorem dL_law_680 : decode cL_law 680 = .ok (.iload 4, 2) := by decide +kernel
theorem dL_law_682 : decode cL_law 682 = .ok (.iconst 1, 1) := by decide +kernel
theorem dL_law_683 : decode cL_law 683 = .ok (.iadd, 1) := by decide +kernel
theorem dL_law_684 : decode cL_law 684 = .ok (.iaload, 1) := by decide +kernel
theorem dL_law_685 : decode cL_law 685 = .ok (.aload_n 0, 1) := by decide +kernel
theorem dL_law_686 : decode cL_law 686 = .ok (.iload 4, 2) := by decide +kernel
theorem dL_law_688 : decode cL_law 688 = .ok (.iconst 2, 1) := by decide +kernel
theorem dL_law_689 : decode cL_law 689 = .ok (.iadd, 1) := by decide +kernel
theorem dL_law_690 : decode cL_law 690 = .ok (.iaload, 1) := by decide +kernel
theorem dL_law_691 : decode cL_law 691 = .ok (.invokevirtual 121, 3) := by decide +kernel
theorem dL_law_694 : decode cL_law 694 = .ok (.istore 6, 2) := by decide +kernel
theorem dL_law_696 : decode cL_law 696 = .ok (.aload_n 2, 1) := by decide +kernel
theorem dL_law_697 : decode cL_law 697 = .ok (.invokevirtual 95, 3) := by decide +kernel
theorem dL_law_700 : decode cL_law 700 = .ok (.iload 5, 2) := by decide +kernel
theorem dL_law_702 : decode cL_law 702 = .ok (.if_icmp .eq 5, 3) := by decide +kernel
theorem dL_law_705 : decode cL_law 705 = .ok (.iconst 0, 1) := by decide +kernel
theorem dL_law_706 : decode cL_law 706 = .ok (.ireturn, 1) := by decide +kernel
theorem dL_law_707 : decode cL_law 707 = .ok (.iload 5, 2) := by decide +kernel
theorem dL_law_709 : decode cL_law 709 = .ok (.ifCond .ne 15, 3) := by decide +kernel
theorem dL_law_712 : decode cL_law 712 = .ok (.aload_n 3, 1) := by decide +kernel
theorem dL_law_713 : decode cL_law 713 = .ok (.iconst 0, 1) := by decide +kernel
theorem dL_law_714 : decode cL_law 714 = .ok (.laload, 1) := by decide +kernel
theorem dL_law_715 : decode cL_law 715 = .ok (.iload 6, 2) := by decide +kernel
theorem dL_law_717 : decode cL_law 717 = .ok (.i2l, 1) := by decide +kernel
theorem dL_law_718 : decode cL_law 718 = .ok (.lcmp, 1) := by decide +kernel
theorem dL_law_719 : decode cL_law 719 = .ok (.ifCond .eq 5, 3) := by decide +kernel
theorem dL_law_722 : decode cL_law 722 = .ok (.iconst 0, 1) := by decide +kernel
theorem dL_law_723 : decode cL_law 723 = .ok (.ireturn, 1) := by decide +kernel
theorem dL_law_724 : decode cL_law 724 = .ok (.goto 794, 3) := by decide +kernel
theorem dL_law_727 : decode cL_law 727 = .ok (.aload_n 1, 1) := by decide +kernel
theorem dL_law_728 : decode cL_law 728 = .ok (.aload_n 0, 1) := by decide +kernel
theorem dL_law_729 : decode cL_law 729 = .ok (.iload 4, 2) := by decide +kernel
theorem dL_law_731 : decode cL_law 731 = .ok (.iconst 1, 1) := by decide +kernel
theorem dL_law_732 : decode cL_law 732 = .ok (.iadd, 1) := by decide +kernel
theorem dL_law_733 : decode cL_law 733 = .ok (.iaload, 1) := by decide +kernel
theorem dL_law_734 : decode cL_law 734 = .ok (.aload_n 0, 1) := by decide +kernel
theorem dL_law_735 : decode cL_law 735 = .ok (.iload 4, 2) := by decide +kernel
theorem dL_law_737 : decode cL_law 737 = .ok (.iconst 2, 1) := by decide +kernel
theorem dL_law_738 : decode cL_law 738 = .ok (.iadd, 1) := by decide +kernel
theorem dL_law_739 : decode cL_law 739 = .ok (.iaload, 1) := by decide +kernel
theorem dL_law_740 : decode cL_law 740 = .ok (.aload_n 0, 1) := by decide +kernel
theorem dL_law_741 : decode cL_law 741 = .ok (.iload 4, 2) := by decide +kernel
theorem dL_law_743 : decode cL_law 743 = .ok (.iconst 3, 1) := by decide +kernel
theorem dL_law_744 : decode cL_law 744 = .ok (.iadd, 1) := by decide +kernel
theorem dL_law_745 : decode cL_law 745 = .ok (.iaload, 1) := by decide +kernel
theorem dL_law_746 : decode cL_law 746 = .ok (.aload_n 0, 1) := by decide +kernel
theorem dL_law_747 : decode cL_law 747 = .ok (.iload 4, 2) := by decide +kernel
theorem dL_law_749 : decode cL_law 749 = .ok (.iconst 4, 1) := by decide +kernel
theorem dL_law_750 : decode cL_law 750 = .ok (.iadd, 1) := by decide +kernel
theorem dL_law_751 : decode cL_law 751 = .ok (.iaload, 1) := by decide +kernel
theorem dL_law_752 : decode cL_law 752 = .ok (.aload_n 3, 1) := by decide +kernel
theorem dL_law_753 : decode cL_law 753 = .ok (.invokestatic 122, 3) := by decide +kernel
theorem dL_law_756 : decode cL_law 756 = .ok (.istore 5, 2) := by decide +kernel
theorem dL_law_758 : decode cL_law 758 = .ok (.aload_n 2, 1) := by decide +kernel
theorem dL_law_759 : decode cL_law 759 = .ok (.aload_n 0, 1) := by decide +kernel
theorem dL_law_760 : decode cL_law 760 = .ok (.iload 4, 2) := by decide +kernel
theorem dL_law_762 : decode cL_law 762 = .ok (.iconst 1, 1) := by decide +kernel
theorem dL_law_763 : decode cL_law 763 = .ok (.iadd, 1) := by decide +kernel
theorem dL_law_764 : decode cL_law 764 = .ok (.iaload, 1) := by decide +kernel
theorem dL_law_765 : decode cL_law 765 = .ok (.aload_n 0, 1) := by decide +kernel
theorem dL_law_766 : decode cL_law 766 = .ok (.iload 4, 2) := by decide +kernel
theorem dL_law_768 : decode cL_law 768 = .ok (.iconst 2, 1) := by decide +kernel
theorem dL_law_769 : decode cL_law 769 = .ok (.iadd, 1) := by decide +kernel
theorem dL_law_770 : decode cL_law 770 = .ok (.iaload, 1) := by decide +kernel
theorem dL_law_771 : decode cL_law 771 = .ok (.aload_n 0, 1) := by decide +kernel
theorem dL_law_772 : decode cL_law 772 = .ok (.iload 4, 2) := by decide +kernel
theorem dL_law_774 : decode cL_law 774 = .ok (.iconst 3, 1) := by decide +kernel
theorem dL_law_775 : decode cL_law 775 = .ok (.iadd, 1) := by decide +kernel
theorem dL_law_776 : decode cL_law 776 = .ok (.iaload, 1) := by decide +kernel
theorem dL_law_777 : decode cL_law 777 = .ok (.aload_n 0, 1) := by decide +kernel
theorem dL_law_778 : decode cL_law 778 = .ok (.iload 4, 2) := by decide +kernel
theorem dL_law_780 : decode cL_law 780 = .ok (.iconst 4, 1) := by decide +kernel
theorem dL_law_781 : decode cL_law 781 = .ok (.iadd, 1) := by decide +kernel
theorem dL_law_782 : decode cL_law 782 = .ok (.iaload, 1) := by decide +kernel
theorem dL_law_783 : decode cL_law 783 = .ok (.invokevirtual 125, 3) := by decide +kernel
theorem dL_law_786 : decode cL_law 786 = .ok (.istore 6, 2) := by decide +kernel
theorem dL_law_788 : decode cL_law 788 = .ok (.aload_n 2, 1) := by decide +kernel
theorem dL_law_789 : decode cL_law 789 = .ok (.invokevirtual 95, 3) := by decide +kernel
theorem dL_law_792 : decode cL_law 792 = .ok (.iload 5, 2) := by decide +kernel
theorem dL_law_794 : decode cL_law 794 = .ok (.if_icmp .eq 5, 3) := by decide +kernel
theorem dL_law_797 : decode cL_law 797 = .ok (.iconst 0, 1) := by decide +kernel
theorem dL_law_798 : decode cL_law 798 = .ok (.ireturn, 1) := by decide +kernel
theorem dL_law_799 : decode cL_law 799 = .ok (.iload 5, 2) := by decide +kernel
theorem dL_law_801 : decode cL_law 801 = .ok (.ifCond .ne 15, 3) := by decide +kernel
theorem dL_law_804 : decode cL_law 804 = .ok (.aload_n 3, 1) := by decide +kernel
theorem dL_law_805 : decode cL_law 805 = .ok (.iconst 0, 1) := by decide +kernel
theorem dL_law_806 : decode cL_law 806 = .ok (.laload, 1) := by decide +kernel
theorem dL_law_807 : decode cL_law 807 = .ok (.iload 6, 2) := by decide +kernel
theorem dL_law_809 : decode cL_law 809 = .ok (.i2l, 1) := by decide +kernel
theorem dL_law_810 : decode cL_law 810 = .ok (.lcmp, 1) := by decide +kernel
theorem dL_law_811 : decode cL_law 811 = .ok (.ifCond .eq 5, 3) := by decide +kernel
theorem dL_law_814 : decode cL_law 814 = .ok (.iconst 0, 1) := by decide +kernel
theorem dL_law_815 : decode cL_law 815 = .ok (.ireturn, 1) := by decide +kernel
theorem dL_law_816 : decode cL_law 816 = .ok (.goto 702, 3) := by decide +kernel
theorem dL_law_819 : decode cL_law 819 = .ok (.aload_n 1, 1) := by decide +kernel
theorem dL_law_820 : decode cL_law 820 = .ok (.invokevirtual 126, 3) := by decide +kernel
theorem dL_law_823 : decode cL_law 823 = .ok (.aload_n 2, 1) := by decide +kernel
theorem dL_law_824 : decode cL_law 824 = .ok (.invokevirtual 129, 3) := by decide +kernel
theorem dL_law_827 : decode cL_law 827 = .ok (.if_icmp .eq 691, 3) := by decide +kernel
theorem dL_law_830 : decode cL_law 830 = .ok (.iconst 0, 1) := by decide +kernel
theorem dL_law_831 : decode cL_law 831 = .ok (.ireturn, 1) := by decide +kernel
theorem dL_law_832 : decode cL_law 832 = .ok (.aload_n 1, 1) := by decide +kernel
theorem dL_law_833 : decode cL_law 833 = .ok (.aload_n 0, 1) := by decide +kernel
theorem dL_law_834 : decode cL_law 834 = .ok (.iload 4, 2) := by decide +kernel
theorem dL_law_836 : decode cL_law 836 = .ok (.iconst 1, 1) := by decide +kernel
theorem dL_law_837 : decode cL_law 837 = .ok (.iadd, 1) := by decide +kernel
theorem dL_law_838 : decode cL_law 838 = .ok (.iaload, 1) := by decide +kernel
theorem dL_law_839 : decode cL_law 839 = .ok (.aload_n 3, 1) := by decide +kernel
theorem dL_law_840 : decode cL_law 840 = .ok (.invokestatic 130, 3) := by decide +kernel
theorem dL_law_843 : decode cL_law 843 = .ok (.istore 5, 2) := by decide +kernel
theorem dL_law_845 : decode cL_law 845 = .ok (.aload_n 2, 1) := by decide +kernel
theorem dL_law_846 : decode cL_law 846 = .ok (.aload_n 0, 1) := by decide +kernel
theorem dL_law_847 : decode cL_law 847 = .ok (.iload 4, 2) := by decide +kernel
theorem dL_law_849 : decode cL_law 849 = .ok (.iconst 1, 1) := by decide +kernel
theorem dL_law_850 : decode cL_law 850 = .ok (.iadd, 1) := by decide +kernel
theorem dL_law_851 : decode cL_law 851 = .ok (.iaload, 1) := by decide +kernel
theorem dL_law_852 : decode cL_law 852 = .ok (.invokevirtual 132, 3) := by decide +kernel
theorem dL_law_855 : decode cL_law 855 = .ok (.istore 6, 2) := by decide +kernel
theorem dL_law_857 : decode cL_law 857 = .ok (.aload_n 2, 1) := by decide +kernel
theorem dL_law_858 : decode cL_law 858 = .ok (.invokevirtual 95, 3) := by decide +kernel
theorem dL_law_861 : decode cL_law 861 = .ok (.iload 5, 2) := by decide +kernel
theorem dL_law_863 : decode cL_law 863 = .ok (.if_icmp .eq 5, 3) := by decide +kernel
theorem dL_law_866 : decode cL_law 866 = .ok (.iconst 0, 1) := by decide +kernel
theorem dL_law_867 : decode cL_law 867 = .ok (.ireturn, 1) := by decide +kernel
theorem dL_law_868 : decode cL_law 868 = .ok (.iload 5, 2) := by decide +kernel
theorem dL_law_870 : decode cL_law 870 = .ok (.ifCond .ne 15, 3) := by decide +kernel
theorem dL_law_873 : decode cL_law 873 = .ok (.aload_n 3, 1) := by decide +kernel
theorem dL_law_874 : decode cL_law 874 = .ok (.iconst 0, 1) := by decide +kernel
theorem dL_law_875 : decode cL_law 875 = .ok (.laload, 1) := by decide +kernel
theorem dL_law_876 : decode cL_law 876 = .ok (.iload 6, 2) := by decide +kernel
theorem dL_law_878 : decode cL_law 878 = .ok (.i2l, 1) := by decide +kernel
theorem dL_law_879 : decode cL_law 879 = .ok (.lcmp, 1) := by decide +kernel
theorem dL_law_880 : decode cL_law 880 = .ok (.ifCond .eq 5, 3) := by decide +kernel
theorem dL_law_883 : decode cL_law 883 = .ok (.iconst 0, 1) := by decide +kernel
theorem dL_law_884 : decode cL_law 884 = .ok (.ireturn, 1) := by decide +kernel
theorem dL_law_885 : decode cL_law 885 = .ok (.goto 633, 3) := by decide +kernel
theorem dL_law_888 : decode cL_law 888 = .ok (.aload_n 1, 1) := by decide +kernel
theorem dL_law_889 : decode cL_law 889 = .ok (.aload_n 0, 1) := by decide +kernel
theorem dL_law_890 : decode cL_law 890 = .ok (.iload 4, 2) := by decide +kernel
theorem dL_law_892 : decode cL_law 892 = .ok (.iconst 1, 1) := by decide +kernel
theorem dL_law_893 : decode cL_law 893 = .ok (.iadd, 1) := by decide +kernel
theorem dL_law_894 : decode cL_law 894 = .ok (.iaload, 1) := by decide +kernel
theorem dL_law_895 : decode cL_law 895 = .ok (.aload_n 3, 1) := by decide +kernel
theorem dL_law_896 : decode cL_law 896 = .ok (.invokestatic 133, 3) := by decide +kernel
theorem dL_law_899 : decode cL_law 899 = .ok (.istore 5, 2) := by decide +kernel
theorem dL_law_901 : decode cL_law 901 = .ok (.aload_n 2, 1) := by decide +kernel
