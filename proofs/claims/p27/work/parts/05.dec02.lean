theorem dX11_digest_39 : decode cX11_digest 39 = .ok (.aload_n 0, 1) := by decide +kernel
theorem dX11_digest_40 : decode cX11_digest 40 = .ok (.getfield 19, 3) := by decide +kernel
theorem dX11_digest_43 : decode cX11_digest 43 = .ok (.getfield 136, 3) := by decide +kernel
theorem dX11_digest_46 : decode cX11_digest 46 = .ok (.i2l, 1) := by decide +kernel
theorem dX11_digest_47 : decode cX11_digest 47 = .ok (.ladd, 1) := by decide +kernel
theorem dX11_digest_48 : decode cX11_digest 48 = .ok (.lstore_n 1, 1) := by decide +kernel
theorem dX11_digest_49 : decode cX11_digest 49 = .ok (.lload_n 1, 1) := by decide +kernel
theorem dX11_digest_50 : decode cX11_digest 50 = .ok (.ldc2_w 324, 3) := by decide +kernel
theorem dX11_digest_53 : decode cX11_digest 53 = .ok (.lmul, 1) := by decide +kernel
theorem dX11_digest_54 : decode cX11_digest 54 = .ok (.aload_n 0, 1) := by decide +kernel
theorem dX11_digest_55 : decode cX11_digest 55 = .ok (.getfield 26, 3) := by decide +kernel
theorem dX11_digest_58 : decode cX11_digest 58 = .ok (.getfield 194, 3) := by decide +kernel
theorem dX11_digest_61 : decode cX11_digest 61 = .ok (.i2l, 1) := by decide +kernel
theorem dX11_digest_62 : decode cX11_digest 62 = .ok (.ladd, 1) := by decide +kernel
theorem dX11_digest_63 : decode cX11_digest 63 = .ok (.lstore_n 1, 1) := by decide +kernel
theorem dX11_digest_64 : decode cX11_digest 64 = .ok (.lload_n 1, 1) := by decide +kernel
theorem dX11_digest_65 : decode cX11_digest 65 = .ok (.ldc2_w 324, 3) := by decide +kernel
theorem dX11_digest_68 : decode cX11_digest 68 = .ok (.lmul, 1) := by decide +kernel
theorem dX11_digest_69 : decode cX11_digest 69 = .ok (.aload_n 0, 1) := by decide +kernel
theorem dX11_digest_70 : decode cX11_digest 70 = .ok (.getfield 26, 3) := by decide +kernel
theorem dX11_digest_73 : decode cX11_digest 73 = .ok (.getfield 202, 3) := by decide +kernel
theorem dX11_digest_76 : decode cX11_digest 76 = .ok (.i2l, 1) := by decide +kernel
theorem dX11_digest_77 : decode cX11_digest 77 = .ok (.ladd, 1) := by decide +kernel
theorem dX11_digest_78 : decode cX11_digest 78 = .ok (.lstore_n 1, 1) := by decide +kernel
theorem dX11_digest_79 : decode cX11_digest 79 = .ok (.lload_n 1, 1) := by decide +kernel
theorem dX11_digest_80 : decode cX11_digest 80 = .ok (.ldc2_w 324, 3) := by decide +kernel
theorem dX11_digest_83 : decode cX11_digest 83 = .ok (.lmul, 1) := by decide +kernel
theorem dX11_digest_84 : decode cX11_digest 84 = .ok (.aload_n 0, 1) := by decide +kernel
theorem dX11_digest_85 : decode cX11_digest 85 = .ok (.getfield 51, 3) := by decide +kernel
theorem dX11_digest_88 : decode cX11_digest 88 = .ok (.getfield 248, 3) := by decide +kernel
theorem dX11_digest_91 : decode cX11_digest 91 = .ok (.i2l, 1) := by decide +kernel
theorem dX11_digest_92 : decode cX11_digest 92 = .ok (.ladd, 1) := by decide +kernel
theorem dX11_digest_93 : decode cX11_digest 93 = .ok (.lstore_n 1, 1) := by decide +kernel
theorem dX11_digest_94 : decode cX11_digest 94 = .ok (.iconst 0, 1) := by decide +kernel
theorem dX11_digest_95 : decode cX11_digest 95 = .ok (.istore_n 3, 1) := by decide +kernel
theorem dX11_digest_96 : decode cX11_digest 96 = .ok (.iload_n 3, 1) := by decide +kernel
theorem dX11_digest_97 : decode cX11_digest 97 = .ok (.aload_n 0, 1) := by decide +kernel
theorem dX11_digest_98 : decode cX11_digest 98 = .ok (.getfield 26, 3) := by decide +kernel
theorem dX11_digest_101 : decode cX11_digest 101 = .ok (.getfield 194, 3) := by decide +kernel
theorem dX11_digest_104 : decode cX11_digest 104 = .ok (.if_icmp .ge 50, 3) := by decide +kernel
theorem dX11_digest_107 : decode cX11_digest 107 = .ok (.aload_n 0, 1) := by decide +kernel
theorem dX11_digest_108 : decode cX11_digest 108 = .ok (.getfield 47, 3) := by decide +kernel
theorem dX11_digest_111 : decode cX11_digest 111 = .ok (.iload_n 3, 1) := by decide +kernel
theorem dX11_digest_112 : decode cX11_digest 112 = .ok (.invokevirtual 260, 3) := by decide +kernel
theorem dX11_digest_115 : decode cX11_digest 115 = .ok (.ifCond .eq 27, 3) := by decide +kernel
theorem dX11_digest_118 : decode cX11_digest 118 = .ok (.aload_n 0, 1) := by decide +kernel
theorem dX11_digest_119 : decode cX11_digest 119 = .ok (.lload_n 1, 1) := by decide +kernel
theorem dX11_digest_120 : decode cX11_digest 120 = .ok (.ldc2_w 324, 3) := by decide +kernel
theorem dX11_digest_123 : decode cX11_digest 123 = .ok (.lmul, 1) := by decide +kernel
theorem dX11_digest_124 : decode cX11_digest 124 = .ok (.lconst 1, 1) := by decide +kernel
theorem dX11_digest_125 : decode cX11_digest 125 = .ok (.ladd, 1) := by decide +kernel
theorem dX11_digest_126 : decode cX11_digest 126 = .ok (.aload_n 0, 1) := by decide +kernel
theorem dX11_digest_127 : decode cX11_digest 127 = .ok (.getfield 47, 3) := by decide +kernel
theorem dX11_digest_130 : decode cX11_digest 130 = .ok (.getfield 285, 3) := by decide +kernel
theorem dX11_digest_133 : decode cX11_digest 133 = .ok (.iload_n 3, 1) := by decide +kernel
theorem dX11_digest_134 : decode cX11_digest 134 = .ok (.aaload, 1) := by decide +kernel
theorem dX11_digest_135 : decode cX11_digest 135 = .ok (.invokevirtual 326, 3) := by decide +kernel
theorem dX11_digest_138 : decode cX11_digest 138 = .ok (.lstore_n 1, 1) := by decide +kernel
theorem dX11_digest_139 : decode cX11_digest 139 = .ok (.goto 9, 3) := by decide +kernel
theorem dX11_digest_142 : decode cX11_digest 142 = .ok (.lload_n 1, 1) := by decide +kernel
theorem dX11_digest_143 : decode cX11_digest 143 = .ok (.ldc2_w 324, 3) := by decide +kernel
theorem dX11_digest_146 : decode cX11_digest 146 = .ok (.lmul, 1) := by decide +kernel
theorem dX11_digest_147 : decode cX11_digest 147 = .ok (.lstore_n 1, 1) := by decide +kernel
theorem dX11_digest_148 : decode cX11_digest 148 = .ok (.iinc 3 1, 3) := by decide +kernel
theorem dX11_digest_151 : decode cX11_digest 151 = .ok (.goto (-55), 3) := by decide +kernel
theorem dX11_digest_154 : decode cX11_digest 154 = .ok (.lload_n 1, 1) := by decide +kernel
theorem dX11_digest_155 : decode cX11_digest 155 = .ok (.lreturn, 1) := by decide +kernel
theorem dX11_addFrame_0 : decode cX11_addFrame 0 = .ok (.lload_n 1, 1) := by decide +kernel
theorem dX11_addFrame_1 : decode cX11_addFrame 1 = .ok (.ldc2_w 324, 3) := by decide +kernel
theorem dX11_addFrame_4 : decode cX11_addFrame 4 = .ok (.lmul, 1) := by decide +kernel
theorem dX11_addFrame_5 : decode cX11_addFrame 5 = .ok (.aload_n 3, 1) := by decide +kernel
theorem dX11_addFrame_6 : decode cX11_addFrame 6 = .ok (.getfield 216, 3) := by decide +kernel
theorem dX11_addFrame_9 : decode cX11_addFrame 9 = .ok (.i2l, 1) := by decide +kernel
theorem dX11_addFrame_10 : decode cX11_addFrame 10 = .ok (.ladd, 1) := by decide +kernel
theorem dX11_addFrame_11 : decode cX11_addFrame 11 = .ok (.lstore 4, 2) := by decide +kernel
theorem dX11_addFrame_13 : decode cX11_addFrame 13 = .ok (.iconst 0, 1) := by decide +kernel
theorem dX11_addFrame_14 : decode cX11_addFrame 14 = .ok (.istore 6, 2) := by decide +kernel
theorem dX11_addFrame_16 : decode cX11_addFrame 16 = .ok (.iload 6, 2) := by decide +kernel
theorem dX11_addFrame_18 : decode cX11_addFrame 18 = .ok (.aload_n 0, 1) := by decide +kernel
theorem dX11_addFrame_19 : decode cX11_addFrame 19 = .ok (.getfield 26, 3) := by decide +kernel
theorem dX11_addFrame_22 : decode cX11_addFrame 22 = .ok (.getfield 230, 3) := by decide +kernel
theorem dX11_addFrame_25 : decode cX11_addFrame 25 = .ok (.if_icmp .ge 26, 3) := by decide +kernel
theorem dX11_addFrame_28 : decode cX11_addFrame 28 = .ok (.lload 4, 2) := by decide +kernel
theorem dX11_addFrame_30 : decode cX11_addFrame 30 = .ok (.ldc2_w 324, 3) := by decide +kernel
theorem dX11_addFrame_33 : decode cX11_addFrame 33 = .ok (.lmul, 1) := by decide +kernel
theorem dX11_addFrame_34 : decode cX11_addFrame 34 = .ok (.aload_n 3, 1) := by decide +kernel
theorem dX11_addFrame_35 : decode cX11_addFrame 35 = .ok (.getfield 213, 3) := by decide +kernel
theorem dX11_addFrame_38 : decode cX11_addFrame 38 = .ok (.iload 6, 2) := by decide +kernel
theorem dX11_addFrame_40 : decode cX11_addFrame 40 = .ok (.iaload, 1) := by decide +kernel
theorem dX11_addFrame_41 : decode cX11_addFrame 41 = .ok (.i2l, 1) := by decide +kernel
theorem dX11_addFrame_42 : decode cX11_addFrame 42 = .ok (.ladd, 1) := by decide +kernel
theorem dX11_addFrame_43 : decode cX11_addFrame 43 = .ok (.lstore 4, 2) := by decide +kernel
theorem dX11_addFrame_45 : decode cX11_addFrame 45 = .ok (.iinc 6 1, 3) := by decide +kernel
theorem dX11_addFrame_48 : decode cX11_addFrame 48 = .ok (.goto (-32), 3) := by decide +kernel
theorem dX11_addFrame_51 : decode cX11_addFrame 51 = .ok (.iconst 0, 1) := by decide +kernel
theorem dX11_addFrame_52 : decode cX11_addFrame 52 = .ok (.istore 6, 2) := by decide +kernel
theorem dX11_addFrame_54 : decode cX11_addFrame 54 = .ok (.iload 6, 2) := by decide +kernel
theorem dX11_addFrame_56 : decode cX11_addFrame 56 = .ok (.aload_n 3, 1) := by decide +kernel
theorem dX11_addFrame_57 : decode cX11_addFrame 57 = .ok (.getfield 216, 3) := by decide +kernel
theorem dX11_addFrame_60 : decode cX11_addFrame 60 = .ok (.if_icmp .ge 26, 3) := by decide +kernel
theorem dX11_addFrame_63 : decode cX11_addFrame 63 = .ok (.lload 4, 2) := by decide +kernel
theorem dX11_addFrame_65 : decode cX11_addFrame 65 = .ok (.ldc2_w 324, 3) := by decide +kernel
theorem dX11_addFrame_68 : decode cX11_addFrame 68 = .ok (.lmul, 1) := by decide +kernel
theorem dX11_addFrame_69 : decode cX11_addFrame 69 = .ok (.aload_n 3, 1) := by decide +kernel
theorem dX11_addFrame_70 : decode cX11_addFrame 70 = .ok (.getfield 221, 3) := by decide +kernel
theorem dX11_addFrame_73 : decode cX11_addFrame 73 = .ok (.iload 6, 2) := by decide +kernel
theorem dX11_addFrame_75 : decode cX11_addFrame 75 = .ok (.iaload, 1) := by decide +kernel
theorem dX11_addFrame_76 : decode cX11_addFrame 76 = .ok (.i2l, 1) := by decide +kernel
theorem dX11_addFrame_77 : decode cX11_addFrame 77 = .ok (.ladd, 1) := by decide +kernel
theorem dX11_addFrame_78 : decode cX11_addFrame 78 = .ok (.lstore 4, 2) := by decide +kernel
theorem dX11_addFrame_80 : decode cX11_addFrame 80 = .ok (.iinc 6 1, 3) := by decide +kernel
theorem dX11_addFrame_83 : decode cX11_addFrame 83 = .ok (.goto (-29), 3) := by decide +kernel
theorem dX11_addFrame_86 : decode cX11_addFrame 86 = .ok (.lload 4, 2) := by decide +kernel
theorem dX11_addFrame_88 : decode cX11_addFrame 88 = .ok (.ldc2_w 324, 3) := by decide +kernel
theorem dX11_addFrame_91 : decode cX11_addFrame 91 = .ok (.lmul, 1) := by decide +kernel
theorem dX11_addFrame_92 : decode cX11_addFrame 92 = .ok (.aload_n 3, 1) := by decide +kernel
theorem dX11_addFrame_93 : decode cX11_addFrame 93 = .ok (.getfield 241, 3) := by decide +kernel
theorem dX11_addFrame_96 : decode cX11_addFrame 96 = .ok (.ifCond .eq 7, 3) := by decide +kernel
theorem dX11_addFrame_99 : decode cX11_addFrame 99 = .ok (.iconst 1, 1) := by decide +kernel
theorem dX11_addFrame_100 : decode cX11_addFrame 100 = .ok (.goto 4, 3) := by decide +kernel
theorem dX11_addFrame_103 : decode cX11_addFrame 103 = .ok (.iconst 0, 1) := by decide +kernel
theorem dX11_addFrame_104 : decode cX11_addFrame 104 = .ok (.i2l, 1) := by decide +kernel
theorem dX11_addFrame_105 : decode cX11_addFrame 105 = .ok (.ladd, 1) := by decide +kernel
theorem dX11_addFrame_106 : decode cX11_addFrame 106 = .ok (.lreturn, 1) := by decide +kernel
theorem dX11_isReferenceType_0 : decode cX11_isReferenceType 0 = .ok (.iload_n 0, 1) := by decide +kernel
theorem dX11_isReferenceType_1 : decode cX11_isReferenceType 1 = .ok (.ifCond .lt 17, 3) := by decide +kernel
theorem dX11_isReferenceType_4 : decode cX11_isReferenceType 4 = .ok (.iload_n 0, 1) := by decide +kernel
theorem dX11_isReferenceType_5 : decode cX11_isReferenceType 5 = .ok (.ifCond .eq 13, 3) := by decide +kernel
theorem dX11_isReferenceType_8 : decode cX11_isReferenceType 8 = .ok (.iload_n 0, 1) := by decide +kernel
theorem dX11_isReferenceType_9 : decode cX11_isReferenceType 9 = .ok (.bipush 8, 2) := by decide +kernel
theorem dX11_isReferenceType_11 : decode cX11_isReferenceType 11 = .ok (.if_icmp .eq 7, 3) := by decide +kernel
theorem dX11_isReferenceType_14 : decode cX11_isReferenceType 14 = .ok (.iconst 1, 1) := by decide +kernel
theorem dX11_isReferenceType_15 : decode cX11_isReferenceType 15 = .ok (.goto 4, 3) := by decide +kernel
theorem dX11_isReferenceType_18 : decode cX11_isReferenceType 18 = .ok (.iconst 0, 1) := by decide +kernel
theorem dX11_isReferenceType_19 : decode cX11_isReferenceType 19 = .ok (.ireturn, 1) := by decide +kernel
theorem dX11_isReference_0 : decode cX11_isReference 0 = .ok (.iload_n 0, 1) := by decide +kernel
theorem dX11_isReference_1 : decode cX11_isReference 1 = .ok (.iconst (-1), 1) := by decide +kernel
theorem dX11_isReference_2 : decode cX11_isReference 2 = .ok (.if_icmp .eq 10, 3) := by decide +kernel
theorem dX11_isReference_5 : decode cX11_isReference 5 = .ok (.iload_n 0, 1) := by decide +kernel
theorem dX11_isReference_6 : decode cX11_isReference 6 = .ok (.invokestatic 330, 3) := by decide +kernel
theorem dX11_isReference_9 : decode cX11_isReference 9 = .ok (.ifCond .eq 7, 3) := by decide +kernel
theorem dX11_isReference_12 : decode cX11_isReference 12 = .ok (.iconst 1, 1) := by decide +kernel
theorem dX11_isReference_13 : decode cX11_isReference 13 = .ok (.goto 4, 3) := by decide +kernel
theorem dX11_isReference_16 : decode cX11_isReference 16 = .ok (.iconst 0, 1) := by decide +kernel
theorem dX11_isReference_17 : decode cX11_isReference 17 = .ok (.ireturn, 1) := by decide +kernel
theorem dX11_slotsOf_0 : decode cX11_slotsOf 0 = .ok (.iload_n 0, 1) := by decide +kernel
theorem dX11_slotsOf_1 : decode cX11_slotsOf 1 = .ok (.bipush 8, 2) := by decide +kernel
theorem dX11_slotsOf_3 : decode cX11_slotsOf 3 = .ok (.if_icmp .ne 7, 3) := by decide +kernel
theorem dX11_slotsOf_6 : decode cX11_slotsOf 6 = .ok (.iconst 2, 1) := by decide +kernel
theorem dX11_slotsOf_7 : decode cX11_slotsOf 7 = .ok (.goto 4, 3) := by decide +kernel
theorem dX11_slotsOf_10 : decode cX11_slotsOf 10 = .ok (.iconst 1, 1) := by decide +kernel
theorem dX11_slotsOf_11 : decode cX11_slotsOf 11 = .ok (.ireturn, 1) := by decide +kernel
theorem dX0_init_0 : decode cX0_init 0 = .ok (.aload_n 0, 1) := by decide +kernel
theorem dX0_init_1 : decode cX0_init 1 = .ok (.invokespecial 3, 3) := by decide +kernel
theorem dX0_init_4 : decode cX0_init 4 = .ok (.aload_n 0, 1) := by decide +kernel
theorem dX0_init_5 : decode cX0_init 5 = .ok (.new 9, 3) := by decide +kernel
theorem dX0_init_8 : decode cX0_init 8 = .ok (.dup, 1) := by decide +kernel
theorem dX0_init_9 : decode cX0_init 9 = .ok (.invokespecial 11, 3) := by decide +kernel
theorem dX0_init_12 : decode cX0_init 12 = .ok (.putfield 12, 3) := by decide +kernel
theorem dX0_init_15 : decode cX0_init 15 = .ok (.aload_n 0, 1) := by decide +kernel
theorem dX0_init_16 : decode cX0_init 16 = .ok (.new 9, 3) := by decide +kernel
theorem dX0_init_19 : decode cX0_init 19 = .ok (.dup, 1) := by decide +kernel
theorem dX0_init_20 : decode cX0_init 20 = .ok (.invokespecial 11, 3) := by decide +kernel
theorem dX0_init_23 : decode cX0_init 23 = .ok (.putfield 18, 3) := by decide +kernel
theorem dX0_init_26 : decode cX0_init 26 = .ok (.aload_n 0, 1) := by decide +kernel
theorem dX0_init_27 : decode cX0_init 27 = .ok (.aload_n 1, 1) := by decide +kernel
theorem dX0_init_28 : decode cX0_init 28 = .ok (.putfield 21, 3) := by decide +kernel
theorem dX0_init_31 : decode cX0_init 31 = .ok (.aload_n 0, 1) := by decide +kernel
theorem dX0_init_32 : decode cX0_init 32 = .ok (.aload_n 2, 1) := by decide +kernel
theorem dX0_init_33 : decode cX0_init 33 = .ok (.putfield 25, 3) := by decide +kernel
theorem dX0_init_36 : decode cX0_init 36 = .ok (.aload_n 0, 1) := by decide +kernel
theorem dX0_init_37 : decode cX0_init 37 = .ok (.aload_n 3, 1) := by decide +kernel
theorem dX0_init_38 : decode cX0_init 38 = .ok (.putfield 29, 3) := by decide +kernel
theorem dX0_init_41 : decode cX0_init 41 = .ok (.aload_n 0, 1) := by decide +kernel
theorem dX0_init_42 : decode cX0_init 42 = .ok (.new 33, 3) := by decide +kernel
theorem dX0_init_45 : decode cX0_init 45 = .ok (.dup, 1) := by decide +kernel
theorem dX0_init_46 : decode cX0_init 46 = .ok (.aload_n 1, 1) := by decide +kernel
theorem dX0_init_47 : decode cX0_init 47 = .ok (.aload_n 2, 1) := by decide +kernel
theorem dX0_init_48 : decode cX0_init 48 = .ok (.aload_n 3, 1) := by decide +kernel
theorem dX0_init_49 : decode cX0_init 49 = .ok (.invokespecial 35, 3) := by decide +kernel
theorem dX0_init_52 : decode cX0_init 52 = .ok (.putfield 38, 3) := by decide +kernel
theorem dX0_init_55 : decode cX0_init 55 = .ok (.aload_n 0, 1) := by decide +kernel
theorem dX0_init_56 : decode cX0_init 56 = .ok (.new 42, 3) := by decide +kernel
theorem dX0_init_59 : decode cX0_init 59 = .ok (.dup, 1) := by decide +kernel
theorem dX0_init_60 : decode cX0_init 60 = .ok (.aload_n 1, 1) := by decide +kernel
theorem dX0_init_61 : decode cX0_init 61 = .ok (.aload_n 2, 1) := by decide +kernel
theorem dX0_init_62 : decode cX0_init 62 = .ok (.aload_n 3, 1) := by decide +kernel
theorem dX0_init_63 : decode cX0_init 63 = .ok (.invokespecial 44, 3) := by decide +kernel
theorem dX0_init_66 : decode cX0_init 66 = .ok (.putfield 45, 3) := by decide +kernel
theorem dX0_init_69 : decode cX0_init 69 = .ok (.aload_n 0, 1) := by decide +kernel
theorem dX0_init_70 : decode cX0_init 70 = .ok (.iconst (-1), 1) := by decide +kernel
theorem dX0_init_71 : decode cX0_init 71 = .ok (.putfield 49, 3) := by decide +kernel
theorem dX0_init_74 : decode cX0_init 74 = .ok (.aload_n 0, 1) := by decide +kernel
theorem dX0_init_75 : decode cX0_init 75 = .ok (.iconst 0, 1) := by decide +kernel
theorem dX0_init_76 : decode cX0_init 76 = .ok (.putfield 53, 3) := by decide +kernel
theorem dX0_init_79 : decode cX0_init 79 = .ok (.return_, 1) := by decide +kernel
theorem dX0_examine_0 : decode cX0_examine 0 = .ok (.aload_n 0, 1) := by decide +kernel
theorem dX0_examine_1 : decode cX0_examine 1 = .ok (.getfield 38, 3) := by decide +kernel
theorem dX0_examine_4 : decode cX0_examine 4 = .ok (.invokevirtual 56, 3) := by decide +kernel
theorem dX0_examine_7 : decode cX0_examine 7 = .ok (.istore_n 1, 1) := by decide +kernel
theorem dX0_examine_8 : decode cX0_examine 8 = .ok (.aload_n 0, 1) := by decide +kernel
theorem dX0_examine_9 : decode cX0_examine 9 = .ok (.aload_n 0, 1) := by decide +kernel
theorem dX0_examine_10 : decode cX0_examine 10 = .ok (.getfield 38, 3) := by decide +kernel
theorem dX0_examine_13 : decode cX0_examine 13 = .ok (.getfield 60, 3) := by decide +kernel
theorem dX0_examine_16 : decode cX0_examine 16 = .ok (.putfield 49, 3) := by decide +kernel
theorem dX0_examine_19 : decode cX0_examine 19 = .ok (.aload_n 0, 1) := by decide +kernel
theorem dX0_examine_20 : decode cX0_examine 20 = .ok (.iconst 0, 1) := by decide +kernel
theorem dX0_examine_21 : decode cX0_examine 21 = .ok (.putfield 53, 3) := by decide +kernel
theorem dX0_examine_24 : decode cX0_examine 24 = .ok (.iload_n 1, 1) := by decide +kernel
theorem dX0_examine_25 : decode cX0_examine 25 = .ok (.ireturn, 1) := by decide +kernel
theorem dX0_makeFirstFrame_0 : decode cX0_makeFirstFrame 0 = .ok (.aload_n 1, 1) := by decide +kernel
theorem dX0_makeFirstFrame_1 : decode cX0_makeFirstFrame 1 = .ok (.invokevirtual 61, 3) := by decide +kernel
theorem dX0_makeFirstFrame_4 : decode cX0_makeFirstFrame 4 = .ok (.aload_n 0, 1) := by decide +kernel
theorem dX0_makeFirstFrame_5 : decode cX0_makeFirstFrame 5 = .ok (.getfield 29, 3) := by decide +kernel
theorem dX0_makeFirstFrame_8 : decode cX0_makeFirstFrame 8 = .ok (.getfield 64, 3) := by decide +kernel
theorem dX0_makeFirstFrame_11 : decode cX0_makeFirstFrame 11 = .ok (.istore_n 2, 1) := by decide +kernel
theorem dX0_makeFirstFrame_12 : decode cX0_makeFirstFrame 12 = .ok (.aload_n 0, 1) := by decide +kernel
theorem dX0_makeFirstFrame_13 : decode cX0_makeFirstFrame 13 = .ok (.getfield 25, 3) := by decide +kernel
theorem dX0_makeFirstFrame_16 : decode cX0_makeFirstFrame 16 = .ok (.getfield 69, 3) := by decide +kernel
theorem dX0_makeFirstFrame_19 : decode cX0_makeFirstFrame 19 = .ok (.iload_n 2, 1) := by decide +kernel
theorem dX0_makeFirstFrame_20 : decode cX0_makeFirstFrame 20 = .ok (.iaload, 1) := by decide +kernel
theorem dX0_makeFirstFrame_21 : decode cX0_makeFirstFrame 21 = .ok (.istore_n 3, 1) := by decide +kernel
theorem dX0_makeFirstFrame_22 : decode cX0_makeFirstFrame 22 = .ok (.iconst 0, 1) := by decide +kernel
theorem dX0_makeFirstFrame_23 : decode cX0_makeFirstFrame 23 = .ok (.istore 4, 2) := by decide +kernel
theorem dX0_makeFirstFrame_25 : decode cX0_makeFirstFrame 25 = .ok (.aload_n 0, 1) := by decide +kernel
theorem dX0_makeFirstFrame_26 : decode cX0_makeFirstFrame 26 = .ok (.getfield 25, 3) := by decide +kernel
theorem dX0_makeFirstFrame_29 : decode cX0_makeFirstFrame 29 = .ok (.getfield 75, 3) := by decide +kernel
theorem dX0_makeFirstFrame_32 : decode cX0_makeFirstFrame 32 = .ok (.iload_n 2, 1) := by decide +kernel
theorem dX0_makeFirstFrame_33 : decode cX0_makeFirstFrame 33 = .ok (.iaload, 1) := by decide +kernel
theorem dX0_makeFirstFrame_34 : decode cX0_makeFirstFrame 34 = .ok (.iconst 1, 1) := by decide +kernel
theorem dX0_makeFirstFrame_35 : decode cX0_makeFirstFrame 35 = .ok (.if_icmp .eq 57, 3) := by decide +kernel
theorem dX0_makeFirstFrame_38 : decode cX0_makeFirstFrame 38 = .ok (.aload_n 0, 1) := by decide +kernel
theorem dX0_makeFirstFrame_39 : decode cX0_makeFirstFrame 39 = .ok (.getfield 25, 3) := by decide +kernel
theorem dX0_makeFirstFrame_42 : decode cX0_makeFirstFrame 42 = .ok (.getfield 75, 3) := by decide +kernel
theorem dX0_makeFirstFrame_45 : decode cX0_makeFirstFrame 45 = .ok (.iload_n 2, 1) := by decide +kernel
theorem dX0_makeFirstFrame_46 : decode cX0_makeFirstFrame 46 = .ok (.iaload, 1) := by decide +kernel
theorem dX0_makeFirstFrame_47 : decode cX0_makeFirstFrame 47 = .ok (.iconst 2, 1) := by decide +kernel
theorem dX0_makeFirstFrame_48 : decode cX0_makeFirstFrame 48 = .ok (.if_icmp .ne 12, 3) := by decide +kernel
theorem dX0_makeFirstFrame_51 : decode cX0_makeFirstFrame 51 = .ok (.iload_n 3, 1) := by decide +kernel
theorem dX0_makeFirstFrame_52 : decode cX0_makeFirstFrame 52 = .ok (.iconst 2, 1) := by decide +kernel
theorem dX0_makeFirstFrame_53 : decode cX0_makeFirstFrame 53 = .ok (.if_icmp .eq 7, 3) := by decide +kernel
theorem dX0_makeFirstFrame_56 : decode cX0_makeFirstFrame 56 = .ok (.iconst 1, 1) := by decide +kernel
theorem dX0_makeFirstFrame_57 : decode cX0_makeFirstFrame 57 = .ok (.goto 4, 3) := by decide +kernel
theorem dX0_makeFirstFrame_60 : decode cX0_makeFirstFrame 60 = .ok (.iconst 0, 1) := by decide +kernel
theorem dX0_makeFirstFrame_61 : decode cX0_makeFirstFrame 61 = .ok (.istore 5, 2) := by decide +kernel
theorem dX0_makeFirstFrame_63 : decode cX0_makeFirstFrame 63 = .ok (.aload_n 1, 1) := by decide +kernel
theorem dX0_makeFirstFrame_64 : decode cX0_makeFirstFrame 64 = .ok (.getfield 78, 3) := by decide +kernel
theorem dX0_makeFirstFrame_67 : decode cX0_makeFirstFrame 67 = .ok (.iconst 0, 1) := by decide +kernel
theorem dX0_makeFirstFrame_68 : decode cX0_makeFirstFrame 68 = .ok (.iload 5, 2) := by decide +kernel
theorem dX0_makeFirstFrame_70 : decode cX0_makeFirstFrame 70 = .ok (.ifCond .eq 8, 3) := by decide +kernel
theorem dX0_makeFirstFrame_73 : decode cX0_makeFirstFrame 73 = .ok (.bipush (-4), 2) := by decide +kernel
theorem dX0_makeFirstFrame_75 : decode cX0_makeFirstFrame 75 = .ok (.goto 7, 3) := by decide +kernel
theorem dX0_makeFirstFrame_78 : decode cX0_makeFirstFrame 78 = .ok (.bipush 8, 2) := by decide +kernel
theorem dX0_makeFirstFrame_80 : decode cX0_makeFirstFrame 80 = .ok (.iload_n 3, 1) := by decide +kernel
theorem dX0_makeFirstFrame_81 : decode cX0_makeFirstFrame 81 = .ok (.imul, 1) := by decide +kernel
theorem dX0_makeFirstFrame_82 : decode cX0_makeFirstFrame 82 = .ok (.iastore, 1) := by decide +kernel
theorem dX0_makeFirstFrame_83 : decode cX0_makeFirstFrame 83 = .ok (.aload_n 1, 1) := by decide +kernel
theorem dX0_makeFirstFrame_84 : decode cX0_makeFirstFrame 84 = .ok (.iload 5, 2) := by decide +kernel
theorem dX0_makeFirstFrame_86 : decode cX0_makeFirstFrame 86 = .ok (.putfield 81, 3) := by decide +kernel
theorem dX0_makeFirstFrame_89 : decode cX0_makeFirstFrame 89 = .ok (.iconst 1, 1) := by decide +kernel
theorem dX0_makeFirstFrame_90 : decode cX0_makeFirstFrame 90 = .ok (.istore 4, 2) := by decide +kernel
theorem dX0_makeFirstFrame_92 : decode cX0_makeFirstFrame 92 = .ok (.iconst 0, 1) := by decide +kernel
theorem dX0_makeFirstFrame_93 : decode cX0_makeFirstFrame 93 = .ok (.istore 5, 2) := by decide +kernel
theorem dX0_makeFirstFrame_95 : decode cX0_makeFirstFrame 95 = .ok (.iload 5, 2) := by decide +kernel
theorem dX0_makeFirstFrame_97 : decode cX0_makeFirstFrame 97 = .ok (.aload_n 0, 1) := by decide +kernel
theorem dX0_makeFirstFrame_98 : decode cX0_makeFirstFrame 98 = .ok (.getfield 25, 3) := by decide +kernel
theorem dX0_makeFirstFrame_101 : decode cX0_makeFirstFrame 101 = .ok (.getfield 85, 3) := by decide +kernel
theorem dX0_makeFirstFrame_104 : decode cX0_makeFirstFrame 104 = .ok (.iload_n 2, 1) := by decide +kernel
theorem dX0_makeFirstFrame_105 : decode cX0_makeFirstFrame 105 = .ok (.iaload, 1) := by decide +kernel
theorem dX0_makeFirstFrame_106 : decode cX0_makeFirstFrame 106 = .ok (.if_icmp .ge 58, 3) := by decide +kernel
theorem dX0_makeFirstFrame_109 : decode cX0_makeFirstFrame 109 = .ok (.aload_n 0, 1) := by decide +kernel
theorem dX0_makeFirstFrame_110 : decode cX0_makeFirstFrame 110 = .ok (.getfield 25, 3) := by decide +kernel
theorem dX0_makeFirstFrame_113 : decode cX0_makeFirstFrame 113 = .ok (.iload_n 2, 1) := by decide +kernel
theorem dX0_makeFirstFrame_114 : decode cX0_makeFirstFrame 114 = .ok (.iload 5, 2) := by decide +kernel
theorem dX0_makeFirstFrame_116 : decode cX0_makeFirstFrame 116 = .ok (.invokevirtual 88, 3) := by decide +kernel
theorem dX0_makeFirstFrame_119 : decode cX0_makeFirstFrame 119 = .ok (.istore 6, 2) := by decide +kernel
theorem dX0_makeFirstFrame_121 : decode cX0_makeFirstFrame 121 = .ok (.aload_n 1, 1) := by decide +kernel
theorem dX0_makeFirstFrame_122 : decode cX0_makeFirstFrame 122 = .ok (.getfield 78, 3) := by decide +kernel
theorem dX0_makeFirstFrame_125 : decode cX0_makeFirstFrame 125 = .ok (.iload 4, 2) := by decide +kernel
theorem dX0_makeFirstFrame_127 : decode cX0_makeFirstFrame 127 = .ok (.iload 6, 2) := by decide +kernel
theorem dX0_makeFirstFrame_129 : decode cX0_makeFirstFrame 129 = .ok (.iastore, 1) := by decide +kernel
theorem dX0_makeFirstFrame_130 : decode cX0_makeFirstFrame 130 = .ok (.iload 6, 2) := by decide +kernel
theorem dX0_makeFirstFrame_132 : decode cX0_makeFirstFrame 132 = .ok (.bipush 8, 2) := by decide +kernel
theorem dX0_makeFirstFrame_134 : decode cX0_makeFirstFrame 134 = .ok (.if_icmp .ne 14, 3) := by decide +kernel
theorem dX0_makeFirstFrame_137 : decode cX0_makeFirstFrame 137 = .ok (.aload_n 1, 1) := by decide +kernel
theorem dX0_makeFirstFrame_138 : decode cX0_makeFirstFrame 138 = .ok (.getfield 78, 3) := by decide +kernel
theorem dX0_makeFirstFrame_141 : decode cX0_makeFirstFrame 141 = .ok (.iload 4, 2) := by decide +kernel
theorem dX0_makeFirstFrame_143 : decode cX0_makeFirstFrame 143 = .ok (.iconst 1, 1) := by decide +kernel
theorem dX0_makeFirstFrame_144 : decode cX0_makeFirstFrame 144 = .ok (.iadd, 1) := by decide +kernel
theorem dX0_makeFirstFrame_145 : decode cX0_makeFirstFrame 145 = .ok (.bipush (-3), 2) := by decide +kernel
theorem dX0_makeFirstFrame_147 : decode cX0_makeFirstFrame 147 = .ok (.iastore, 1) := by decide +kernel
theorem dX0_makeFirstFrame_148 : decode cX0_makeFirstFrame 148 = .ok (.iload 4, 2) := by decide +kernel
theorem dX0_makeFirstFrame_150 : decode cX0_makeFirstFrame 150 = .ok (.iload 6, 2) := by decide +kernel
theorem dX0_makeFirstFrame_152 : decode cX0_makeFirstFrame 152 = .ok (.invokestatic 92, 3) := by decide +kernel
theorem dX0_makeFirstFrame_155 : decode cX0_makeFirstFrame 155 = .ok (.iadd, 1) := by decide +kernel
theorem dX0_makeFirstFrame_156 : decode cX0_makeFirstFrame 156 = .ok (.istore 4, 2) := by decide +kernel
theorem dX0_makeFirstFrame_158 : decode cX0_makeFirstFrame 158 = .ok (.iinc 5 1, 3) := by decide +kernel
theorem dX0_makeFirstFrame_161 : decode cX0_makeFirstFrame 161 = .ok (.goto (-66), 3) := by decide +kernel
theorem dX0_makeFirstFrame_164 : decode cX0_makeFirstFrame 164 = .ok (.return_, 1) := by decide +kernel
theorem dX0_process_0 : decode cX0_process 0 = .ok (.aload_n 0, 1) := by decide +kernel
theorem dX0_process_1 : decode cX0_process 1 = .ok (.dup, 1) := by decide +kernel
theorem dX0_process_2 : decode cX0_process 2 = .ok (.getfield 53, 3) := by decide +kernel
theorem dX0_process_5 : decode cX0_process 5 = .ok (.iconst 1, 1) := by decide +kernel
theorem dX0_process_6 : decode cX0_process 6 = .ok (.iadd, 1) := by decide +kernel
theorem dX0_process_7 : decode cX0_process 7 = .ok (.putfield 53, 3) := by decide +kernel
theorem dX0_process_10 : decode cX0_process 10 = .ok (.aload_n 0, 1) := by decide +kernel
theorem dX0_process_11 : decode cX0_process 11 = .ok (.iload_n 1, 1) := by decide +kernel
theorem dX0_process_12 : decode cX0_process 12 = .ok (.invokevirtual 96, 3) := by decide +kernel
theorem dX0_process_15 : decode cX0_process 15 = .ok (.istore_n 2, 1) := by decide +kernel
theorem dX0_process_16 : decode cX0_process 16 = .ok (.iload_n 2, 1) := by decide +kernel
theorem dX0_process_17 : decode cX0_process 17 = .ok (.ifCond .ne 16, 3) := by decide +kernel
theorem dX0_process_20 : decode cX0_process 20 = .ok (.aload_n 0, 1) := by decide +kernel
theorem dX0_process_21 : decode cX0_process 21 = .ok (.getfield 45, 3) := by decide +kernel
theorem dX0_process_24 : decode cX0_process 24 = .ok (.iload_n 1, 1) := by decide +kernel
theorem dX0_process_25 : decode cX0_process 25 = .ok (.aload_n 0, 1) := by decide +kernel
theorem dX0_process_26 : decode cX0_process 26 = .ok (.getfield 12, 3) := by decide +kernel
theorem dX0_process_29 : decode cX0_process 29 = .ok (.invokevirtual 99, 3) := by decide +kernel
theorem dX0_process_32 : decode cX0_process 32 = .ok (.istore_n 2, 1) := by decide +kernel
theorem dX0_process_33 : decode cX0_process 33 = .ok (.iload_n 2, 1) := by decide +kernel
theorem dX0_process_34 : decode cX0_process 34 = .ok (.ifCond .ne 9, 3) := by decide +kernel
theorem dX0_process_37 : decode cX0_process 37 = .ok (.aload_n 0, 1) := by decide +kernel
theorem dX0_process_38 : decode cX0_process 38 = .ok (.iload_n 1, 1) := by decide +kernel
theorem dX0_process_39 : decode cX0_process 39 = .ok (.invokevirtual 103, 3) := by decide +kernel
theorem dX0_process_42 : decode cX0_process 42 = .ok (.istore_n 2, 1) := by decide +kernel
theorem dX0_process_43 : decode cX0_process 43 = .ok (.iload_n 2, 1) := by decide +kernel
theorem dX0_process_44 : decode cX0_process 44 = .ok (.ifCond .eq 8, 3) := by decide +kernel
theorem dX0_process_47 : decode cX0_process 47 = .ok (.aload_n 0, 1) := by decide +kernel
theorem dX0_process_48 : decode cX0_process 48 = .ok (.iload_n 1, 1) := by decide +kernel
theorem dX0_process_49 : decode cX0_process 49 = .ok (.putfield 49, 3) := by decide +kernel
theorem dX0_process_52 : decode cX0_process 52 = .ok (.iload_n 2, 1) := by decide +kernel
theorem dX0_process_53 : decode cX0_process 53 = .ok (.ireturn, 1) := by decide +kernel
theorem dX0_flowToHandlers_0 : decode cX0_flowToHandlers 0 = .ok (.iconst 0, 1) := by decide +kernel
theorem dX0_flowToHandlers_1 : decode cX0_flowToHandlers 1 = .ok (.istore_n 2, 1) := by decide +kernel
theorem dX0_flowToHandlers_2 : decode cX0_flowToHandlers 2 = .ok (.iload_n 2, 1) := by decide +kernel
theorem dX0_flowToHandlers_3 : decode cX0_flowToHandlers 3 = .ok (.aload_n 0, 1) := by decide +kernel
theorem dX0_flowToHandlers_4 : decode cX0_flowToHandlers 4 = .ok (.getfield 29, 3) := by decide +kernel
theorem dX0_flowToHandlers_7 : decode cX0_flowToHandlers 7 = .ok (.getfield 106, 3) := by decide +kernel
theorem dX0_flowToHandlers_10 : decode cX0_flowToHandlers 10 = .ok (.if_icmp .ge 79, 3) := by decide +kernel
theorem dX0_flowToHandlers_13 : decode cX0_flowToHandlers 13 = .ok (.aload_n 0, 1) := by decide +kernel
theorem dX0_flowToHandlers_14 : decode cX0_flowToHandlers 14 = .ok (.getfield 29, 3) := by decide +kernel
theorem dX0_flowToHandlers_17 : decode cX0_flowToHandlers 17 = .ok (.iload_n 2, 1) := by decide +kernel
theorem dX0_flowToHandlers_18 : decode cX0_flowToHandlers 18 = .ok (.iload_n 1, 1) := by decide +kernel
theorem dX0_flowToHandlers_19 : decode cX0_flowToHandlers 19 = .ok (.invokevirtual 109, 3) := by decide +kernel
theorem dX0_flowToHandlers_22 : decode cX0_flowToHandlers 22 = .ok (.ifCond .eq 61, 3) := by decide +kernel
theorem dX0_flowToHandlers_25 : decode cX0_flowToHandlers 25 = .ok (.aload_n 0, 1) := by decide +kernel
theorem dX0_flowToHandlers_26 : decode cX0_flowToHandlers 26 = .ok (.getfield 29, 3) := by decide +kernel
theorem dX0_flowToHandlers_29 : decode cX0_flowToHandlers 29 = .ok (.getfield 113, 3) := by decide +kernel
theorem dX0_flowToHandlers_32 : decode cX0_flowToHandlers 32 = .ok (.ifCond .ne 6, 3) := by decide +kernel
theorem dX0_flowToHandlers_35 : decode cX0_flowToHandlers 35 = .ok (.bipush 6, 2) := by decide +kernel
theorem dX0_flowToHandlers_37 : decode cX0_flowToHandlers 37 = .ok (.ireturn, 1) := by decide +kernel
theorem dX0_flowToHandlers_38 : decode cX0_flowToHandlers 38 = .ok (.aload_n 0, 1) := by decide +kernel
theorem dX0_flowToHandlers_39 : decode cX0_flowToHandlers 39 = .ok (.getfield 18, 3) := by decide +kernel
theorem dX0_flowToHandlers_42 : decode cX0_flowToHandlers 42 = .ok (.aload_n 0, 1) := by decide +kernel
theorem dX0_flowToHandlers_43 : decode cX0_flowToHandlers 43 = .ok (.getfield 12, 3) := by decide +kernel
theorem dX0_flowToHandlers_46 : decode cX0_flowToHandlers 46 = .ok (.aload_n 0, 1) := by decide +kernel
theorem dX0_flowToHandlers_47 : decode cX0_flowToHandlers 47 = .ok (.getfield 29, 3) := by decide +kernel
theorem dX0_flowToHandlers_50 : decode cX0_flowToHandlers 50 = .ok (.getfield 116, 3) := by decide +kernel
theorem dX0_flowToHandlers_53 : decode cX0_flowToHandlers 53 = .ok (.iload_n 2, 1) := by decide +kernel
theorem dX0_flowToHandlers_54 : decode cX0_flowToHandlers 54 = .ok (.iaload, 1) := by decide +kernel
theorem dX0_flowToHandlers_55 : decode cX0_flowToHandlers 55 = .ok (.invokevirtual 119, 3) := by decide +kernel
theorem dX0_flowToHandlers_58 : decode cX0_flowToHandlers 58 = .ok (.aload_n 0, 1) := by decide +kernel
theorem dX0_flowToHandlers_59 : decode cX0_flowToHandlers 59 = .ok (.aload_n 0, 1) := by decide +kernel
theorem dX0_flowToHandlers_60 : decode cX0_flowToHandlers 60 = .ok (.getfield 29, 3) := by decide +kernel
theorem dX0_flowToHandlers_63 : decode cX0_flowToHandlers 63 = .ok (.getfield 123, 3) := by decide +kernel
theorem dX0_flowToHandlers_66 : decode cX0_flowToHandlers 66 = .ok (.iload_n 2, 1) := by decide +kernel
theorem dX0_flowToHandlers_67 : decode cX0_flowToHandlers 67 = .ok (.iaload, 1) := by decide +kernel
theorem dX0_flowToHandlers_68 : decode cX0_flowToHandlers 68 = .ok (.aload_n 0, 1) := by decide +kernel
theorem dX0_flowToHandlers_69 : decode cX0_flowToHandlers 69 = .ok (.getfield 18, 3) := by decide +kernel
theorem dX0_flowToHandlers_72 : decode cX0_flowToHandlers 72 = .ok (.iconst 0, 1) := by decide +kernel
theorem dX0_flowToHandlers_73 : decode cX0_flowToHandlers 73 = .ok (.invokevirtual 126, 3) := by decide +kernel
theorem dX0_flowToHandlers_76 : decode cX0_flowToHandlers 76 = .ok (.istore_n 3, 1) := by decide +kernel
theorem dX0_flowToHandlers_77 : decode cX0_flowToHandlers 77 = .ok (.iload_n 3, 1) := by decide +kernel
theorem dX0_flowToHandlers_78 : decode cX0_flowToHandlers 78 = .ok (.ifCond .eq 5, 3) := by decide +kernel
theorem dX0_flowToHandlers_81 : decode cX0_flowToHandlers 81 = .ok (.iload_n 3, 1) := by decide +kernel
theorem dX0_flowToHandlers_82 : decode cX0_flowToHandlers 82 = .ok (.ireturn, 1) := by decide +kernel
theorem dX0_flowToHandlers_83 : decode cX0_flowToHandlers 83 = .ok (.iinc 2 1, 3) := by decide +kernel
theorem dX0_flowToHandlers_86 : decode cX0_flowToHandlers 86 = .ok (.goto (-84), 3) := by decide +kernel
theorem dX0_flowToHandlers_89 : decode cX0_flowToHandlers 89 = .ok (.iconst 0, 1) := by decide +kernel
theorem dX0_flowToHandlers_90 : decode cX0_flowToHandlers 90 = .ok (.ireturn, 1) := by decide +kernel
theorem dX0_flowToSuccessors_0 : decode cX0_flowToSuccessors 0 = .ok (.aload_n 0, 1) := by decide +kernel
theorem dX0_flowToSuccessors_1 : decode cX0_flowToSuccessors 1 = .ok (.getfield 29, 3) := by decide +kernel
theorem dX0_flowToSuccessors_4 : decode cX0_flowToSuccessors 4 = .ok (.getfield 130, 3) := by decide +kernel
theorem dX0_flowToSuccessors_7 : decode cX0_flowToSuccessors 7 = .ok (.iload_n 1, 1) := by decide +kernel
theorem dX0_flowToSuccessors_8 : decode cX0_flowToSuccessors 8 = .ok (.iaload, 1) := by decide +kernel
theorem dX0_flowToSuccessors_9 : decode cX0_flowToSuccessors 9 = .ok (.istore_n 2, 1) := by decide +kernel
theorem dX0_flowToSuccessors_10 : decode cX0_flowToSuccessors 10 = .ok (.iconst 0, 1) := by decide +kernel
theorem dX0_flowToSuccessors_11 : decode cX0_flowToSuccessors 11 = .ok (.istore_n 3, 1) := by decide +kernel
theorem dX0_flowToSuccessors_12 : decode cX0_flowToSuccessors 12 = .ok (.iload_n 2, 1) := by decide +kernel
theorem dX0_flowToSuccessors_13 : decode cX0_flowToSuccessors 13 = .ok (.invokestatic 133, 3) := by decide +kernel
theorem dX0_flowToSuccessors_16 : decode cX0_flowToSuccessors 16 = .ok (.ifCond .eq 34, 3) := by decide +kernel
theorem dX0_flowToSuccessors_19 : decode cX0_flowToSuccessors 19 = .ok (.aload_n 0, 1) := by decide +kernel
theorem dX0_flowToSuccessors_20 : decode cX0_flowToSuccessors 20 = .ok (.getfield 29, 3) := by decide +kernel
theorem dX0_flowToSuccessors_23 : decode cX0_flowToSuccessors 23 = .ok (.iload_n 1, 1) := by decide +kernel
theorem dX0_flowToSuccessors_24 : decode cX0_flowToSuccessors 24 = .ok (.iconst 1, 1) := by decide +kernel
theorem dX0_flowToSuccessors_25 : decode cX0_flowToSuccessors 25 = .ok (.iadd, 1) := by decide +kernel
theorem dX0_flowToSuccessors_26 : decode cX0_flowToSuccessors 26 = .ok (.invokevirtual 139, 3) := by decide +kernel
theorem dX0_flowToSuccessors_29 : decode cX0_flowToSuccessors 29 = .ok (.ifCond .eq 18, 3) := by decide +kernel
theorem dX0_flowToSuccessors_32 : decode cX0_flowToSuccessors 32 = .ok (.aload_n 0, 1) := by decide +kernel
theorem dX0_flowToSuccessors_33 : decode cX0_flowToSuccessors 33 = .ok (.iload_n 1, 1) := by decide +kernel
theorem dX0_flowToSuccessors_34 : decode cX0_flowToSuccessors 34 = .ok (.iconst 1, 1) := by decide +kernel
theorem dX0_flowToSuccessors_35 : decode cX0_flowToSuccessors 35 = .ok (.iadd, 1) := by decide +kernel
theorem dX0_flowToSuccessors_36 : decode cX0_flowToSuccessors 36 = .ok (.aload_n 0, 1) := by decide +kernel
theorem dX0_flowToSuccessors_37 : decode cX0_flowToSuccessors 37 = .ok (.getfield 12, 3) := by decide +kernel
theorem dX0_flowToSuccessors_40 : decode cX0_flowToSuccessors 40 = .ok (.iconst 1, 1) := by decide +kernel
theorem dX0_flowToSuccessors_41 : decode cX0_flowToSuccessors 41 = .ok (.invokevirtual 126, 3) := by decide +kernel
theorem dX0_flowToSuccessors_44 : decode cX0_flowToSuccessors 44 = .ok (.goto 5, 3) := by decide +kernel
theorem dX0_flowToSuccessors_47 : decode cX0_flowToSuccessors 47 = .ok (.bipush 7, 2) := by decide +kernel
theorem dX0_flowToSuccessors_49 : decode cX0_flowToSuccessors 49 = .ok (.istore_n 3, 1) := by decide +kernel
theorem dX0_flowToSuccessors_50 : decode cX0_flowToSuccessors 50 = .ok (.iload_n 3, 1) := by decide +kernel
theorem dX0_flowToSuccessors_51 : decode cX0_flowToSuccessors 51 = .ok (.ifCond .ne 29, 3) := by decide +kernel
theorem dX0_flowToSuccessors_54 : decode cX0_flowToSuccessors 54 = .ok (.iload_n 2, 1) := by decide +kernel
theorem dX0_flowToSuccessors_55 : decode cX0_flowToSuccessors 55 = .ok (.invokestatic 142, 3) := by decide +kernel
theorem dX0_flowToSuccessors_58 : decode cX0_flowToSuccessors 58 = .ok (.ifCond .eq 22, 3) := by decide +kernel
theorem dX0_flowToSuccessors_61 : decode cX0_flowToSuccessors 61 = .ok (.aload_n 0, 1) := by decide +kernel
theorem dX0_flowToSuccessors_62 : decode cX0_flowToSuccessors 62 = .ok (.aload_n 0, 1) := by decide +kernel
theorem dX0_flowToSuccessors_63 : decode cX0_flowToSuccessors 63 = .ok (.getfield 29, 3) := by decide +kernel
theorem dX0_flowToSuccessors_66 : decode cX0_flowToSuccessors 66 = .ok (.getfield 145, 3) := by decide +kernel
theorem dX0_flowToSuccessors_69 : decode cX0_flowToSuccessors 69 = .ok (.iload_n 1, 1) := by decide +kernel
theorem dX0_flowToSuccessors_70 : decode cX0_flowToSuccessors 70 = .ok (.iaload, 1) := by decide +kernel
theorem dX0_flowToSuccessors_71 : decode cX0_flowToSuccessors 71 = .ok (.aload_n 0, 1) := by decide +kernel
theorem dX0_flowToSuccessors_72 : decode cX0_flowToSuccessors 72 = .ok (.getfield 12, 3) := by decide +kernel
theorem dX0_flowToSuccessors_75 : decode cX0_flowToSuccessors 75 = .ok (.iconst 0, 1) := by decide +kernel
theorem dX0_flowToSuccessors_76 : decode cX0_flowToSuccessors 76 = .ok (.invokevirtual 126, 3) := by decide +kernel
theorem dX0_flowToSuccessors_79 : decode cX0_flowToSuccessors 79 = .ok (.istore_n 3, 1) := by decide +kernel
theorem dX0_flowToSuccessors_80 : decode cX0_flowToSuccessors 80 = .ok (.iload_n 3, 1) := by decide +kernel
theorem dX0_flowToSuccessors_81 : decode cX0_flowToSuccessors 81 = .ok (.ireturn, 1) := by decide +kernel
theorem dJ9_min_7cf53_0 : decode cJ9_min_7cf53 0 = .ok (.iload_n 0, 1) := by decide +kernel
theorem dJ9_min_7cf53_1 : decode cJ9_min_7cf53 1 = .ok (.iload_n 1, 1) := by decide +kernel
theorem dJ9_min_7cf53_2 : decode cJ9_min_7cf53 2 = .ok (.if_icmp .gt 7, 3) := by decide +kernel
theorem dJ9_min_7cf53_5 : decode cJ9_min_7cf53 5 = .ok (.iload_n 0, 1) := by decide +kernel
theorem dJ9_min_7cf53_6 : decode cJ9_min_7cf53 6 = .ok (.goto 4, 3) := by decide +kernel
theorem dJ9_min_7cf53_9 : decode cJ9_min_7cf53 9 = .ok (.iload_n 1, 1) := by decide +kernel
theorem dJ9_min_7cf53_10 : decode cJ9_min_7cf53 10 = .ok (.ireturn, 1) := by decide +kernel
theorem dL_below_0 : decode cL_below 0 = .ok (.iload_n 0, 1) := by decide +kernel
theorem dL_below_1 : decode cL_below 1 = .ok (.ldc 7, 2) := by decide +kernel
theorem dL_below_3 : decode cL_below 3 = .ok (.iand, 1) := by decide +kernel
theorem dL_below_4 : decode cL_below 4 = .ok (.iload_n 1, 1) := by decide +kernel
theorem dL_below_5 : decode cL_below 5 = .ok (.irem, 1) := by decide +kernel
theorem dL_below_6 : decode cL_below 6 = .ok (.ireturn, 1) := by decide +kernel
theorem dL_cell_0 : decode cL_cell 0 = .ok (.iload_n 1, 1) := by decide +kernel
theorem dL_cell_1 : decode cL_cell 1 = .ok (.aload_n 0, 1) := by decide +kernel
theorem dL_cell_2 : decode cL_cell 2 = .ok (.arraylength, 1) := by decide +kernel
theorem dL_cell_3 : decode cL_cell 3 = .ok (.if_icmp .ge 9, 3) := by decide +kernel
theorem dL_cell_6 : decode cL_cell 6 = .ok (.aload_n 0, 1) := by decide +kernel
theorem dL_cell_7 : decode cL_cell 7 = .ok (.iload_n 1, 1) := by decide +kernel
theorem dL_cell_8 : decode cL_cell 8 = .ok (.iaload, 1) := by decide +kernel
theorem dL_cell_9 : decode cL_cell 9 = .ok (.goto 9, 3) := by decide +kernel
theorem dL_cell_12 : decode cL_cell 12 = .ok (.ldc 8, 2) := by decide +kernel
theorem dL_cell_14 : decode cL_cell 14 = .ok (.iload_n 1, 1) := by decide +kernel
theorem dL_cell_15 : decode cL_cell 15 = .ok (.iconst 3, 1) := by decide +kernel
theorem dL_cell_16 : decode cL_cell 16 = .ok (.iadd, 1) := by decide +kernel
theorem dL_cell_17 : decode cL_cell 17 = .ok (.imul, 1) := by decide +kernel
theorem dL_cell_18 : decode cL_cell 18 = .ok (.ireturn, 1) := by decide +kernel
theorem dL_emit_0 : decode cL_emit 0 = .ok (.iload_n 1, 1) := by decide +kernel
theorem dL_emit_1 : decode cL_emit 1 = .ok (.bipush 8, 2) := by decide +kernel
theorem dL_emit_3 : decode cL_emit 3 = .ok (.ishr, 1) := by decide +kernel
theorem dL_emit_4 : decode cL_emit 4 = .ok (.iconst 3, 1) := by decide +kernel
theorem dL_emit_5 : decode cL_emit 5 = .ok (.invokestatic 9, 3) := by decide +kernel
theorem dL_emit_8 : decode cL_emit 8 = .ok (.istore_n 3, 1) := by decide +kernel
theorem dL_emit_9 : decode cL_emit 9 = .ok (.iload_n 1, 1) := by decide +kernel
theorem dL_emit_10 : decode cL_emit 10 = .ok (.bipush 8, 2) := by decide +kernel
theorem dL_emit_12 : decode cL_emit 12 = .ok (.ishr, 1) := by decide +kernel
theorem dL_emit_13 : decode cL_emit 13 = .ok (.iload_n 2, 1) := by decide +kernel
theorem dL_emit_14 : decode cL_emit 14 = .ok (.invokestatic 9, 3) := by decide +kernel
theorem dL_emit_17 : decode cL_emit 17 = .ok (.istore 4, 2) := by decide +kernel
theorem dL_emit_19 : decode cL_emit 19 = .ok (.iload_n 1, 1) := by decide +kernel
theorem dL_emit_20 : decode cL_emit 20 = .ok (.bipush 16, 2) := by decide +kernel
theorem dL_emit_22 : decode cL_emit 22 = .ok (.invokestatic 9, 3) := by decide +kernel
theorem dL_emit_25 : decode cL_emit 25 = .ok (.tableswitch 221 0 14 #[75, 82, 89, 96, 103, 111, 119, 127, 135, 144, 153, 168, 183, 191, 200], 75) := by decide +kernel
theorem dL_emit_100 : decode cL_emit 100 = .ok (.aload_n 0, 1) := by decide +kernel
theorem dL_emit_101 : decode cL_emit 101 = .ok (.iconst 1, 1) := by decide +kernel
theorem dL_emit_102 : decode cL_emit 102 = .ok (.iconst 0, 1) := by decide +kernel
theorem dL_emit_103 : decode cL_emit 103 = .ok (.invokevirtual 15, 3) := by decide +kernel
theorem dL_emit_106 : decode cL_emit 106 = .ok (.ireturn, 1) := by decide +kernel
theorem dL_emit_107 : decode cL_emit 107 = .ok (.aload_n 0, 1) := by decide +kernel
theorem dL_emit_108 : decode cL_emit 108 = .ok (.iconst 3, 1) := by decide +kernel
theorem dL_emit_109 : decode cL_emit 109 = .ok (.iconst 0, 1) := by decide +kernel
theorem dL_emit_110 : decode cL_emit 110 = .ok (.invokevirtual 15, 3) := by decide +kernel
theorem dL_emit_113 : decode cL_emit 113 = .ok (.ireturn, 1) := by decide +kernel
theorem dL_emit_114 : decode cL_emit 114 = .ok (.aload_n 0, 1) := by decide +kernel
theorem dL_emit_115 : decode cL_emit 115 = .ok (.iconst 2, 1) := by decide +kernel
theorem dL_emit_116 : decode cL_emit 116 = .ok (.iconst 0, 1) := by decide +kernel
theorem dL_emit_117 : decode cL_emit 117 = .ok (.invokevirtual 15, 3) := by decide +kernel
theorem dL_emit_120 : decode cL_emit 120 = .ok (.ireturn, 1) := by decide +kernel
theorem dL_emit_121 : decode cL_emit 121 = .ok (.aload_n 0, 1) := by decide +kernel
theorem dL_emit_122 : decode cL_emit 122 = .ok (.iconst 4, 1) := by decide +kernel
theorem dL_emit_123 : decode cL_emit 123 = .ok (.iload_n 3, 1) := by decide +kernel
theorem dL_emit_124 : decode cL_emit 124 = .ok (.invokevirtual 15, 3) := by decide +kernel
theorem dL_emit_127 : decode cL_emit 127 = .ok (.ireturn, 1) := by decide +kernel
theorem dL_emit_128 : decode cL_emit 128 = .ok (.aload_n 0, 1) := by decide +kernel
theorem dL_emit_129 : decode cL_emit 129 = .ok (.bipush 7, 2) := by decide +kernel
theorem dL_emit_131 : decode cL_emit 131 = .ok (.iload_n 3, 1) := by decide +kernel
theorem dL_emit_132 : decode cL_emit 132 = .ok (.invokevirtual 15, 3) := by decide +kernel
theorem dL_emit_135 : decode cL_emit 135 = .ok (.ireturn, 1) := by decide +kernel
theorem dL_emit_136 : decode cL_emit 136 = .ok (.aload_n 0, 1) := by decide +kernel
theorem dL_emit_137 : decode cL_emit 137 = .ok (.bipush 6, 2) := by decide +kernel
theorem dL_emit_139 : decode cL_emit 139 = .ok (.iload_n 3, 1) := by decide +kernel
theorem dL_emit_140 : decode cL_emit 140 = .ok (.invokevirtual 15, 3) := by decide +kernel
theorem dL_emit_143 : decode cL_emit 143 = .ok (.ireturn, 1) := by decide +kernel
theorem dL_emit_144 : decode cL_emit 144 = .ok (.aload_n 0, 1) := by decide +kernel
theorem dL_emit_145 : decode cL_emit 145 = .ok (.bipush 9, 2) := by decide +kernel
theorem dL_emit_147 : decode cL_emit 147 = .ok (.iload_n 3, 1) := by decide +kernel
theorem dL_emit_148 : decode cL_emit 148 = .ok (.invokevirtual 15, 3) := by decide +kernel
theorem dL_emit_151 : decode cL_emit 151 = .ok (.ireturn, 1) := by decide +kernel
theorem dL_emit_152 : decode cL_emit 152 = .ok (.aload_n 0, 1) := by decide +kernel
theorem dL_emit_153 : decode cL_emit 153 = .ok (.bipush 10, 2) := by decide +kernel
theorem dL_emit_155 : decode cL_emit 155 = .ok (.iconst 0, 1) := by decide +kernel
theorem dL_emit_156 : decode cL_emit 156 = .ok (.invokevirtual 15, 3) := by decide +kernel
theorem dL_emit_159 : decode cL_emit 159 = .ok (.ireturn, 1) := by decide +kernel
theorem dL_emit_160 : decode cL_emit 160 = .ok (.aload_n 0, 1) := by decide +kernel
theorem dL_emit_161 : decode cL_emit 161 = .ok (.bipush 23, 2) := by decide +kernel
theorem dL_emit_163 : decode cL_emit 163 = .ok (.iload 4, 2) := by decide +kernel
theorem dL_emit_165 : decode cL_emit 165 = .ok (.invokevirtual 15, 3) := by decide +kernel
theorem dL_emit_168 : decode cL_emit 168 = .ok (.ireturn, 1) := by decide +kernel
theorem dL_emit_169 : decode cL_emit 169 = .ok (.aload_n 0, 1) := by decide +kernel
theorem dL_emit_170 : decode cL_emit 170 = .ok (.bipush 22, 2) := by decide +kernel
theorem dL_emit_172 : decode cL_emit 172 = .ok (.iload 4, 2) := by decide +kernel
theorem dL_emit_174 : decode cL_emit 174 = .ok (.invokevirtual 15, 3) := by decide +kernel
theorem dL_emit_177 : decode cL_emit 177 = .ok (.ireturn, 1) := by decide +kernel
theorem dL_emit_178 : decode cL_emit 178 = .ok (.aload_n 0, 1) := by decide +kernel
theorem dL_emit_179 : decode cL_emit 179 = .ok (.bipush 34, 2) := by decide +kernel
theorem dL_emit_181 : decode cL_emit 181 = .ok (.iconst 3, 1) := by decide +kernel
theorem dL_emit_182 : decode cL_emit 182 = .ok (.iload_n 1, 1) := by decide +kernel
theorem dL_emit_183 : decode cL_emit 183 = .ok (.bipush 8, 2) := by decide +kernel
theorem dL_emit_185 : decode cL_emit 185 = .ok (.ishr, 1) := by decide +kernel
theorem dL_emit_186 : decode cL_emit 186 = .ok (.iconst 1, 1) := by decide +kernel
theorem dL_emit_187 : decode cL_emit 187 = .ok (.iand, 1) := by decide +kernel
theorem dL_emit_188 : decode cL_emit 188 = .ok (.iadd, 1) := by decide +kernel
theorem dL_emit_189 : decode cL_emit 189 = .ok (.invokevirtual 15, 3) := by decide +kernel
theorem dL_emit_192 : decode cL_emit 192 = .ok (.ireturn, 1) := by decide +kernel
theorem dL_emit_193 : decode cL_emit 193 = .ok (.aload_n 0, 1) := by decide +kernel
theorem dL_emit_194 : decode cL_emit 194 = .ok (.bipush 35, 2) := by decide +kernel
theorem dL_emit_196 : decode cL_emit 196 = .ok (.iconst 1, 1) := by decide +kernel
theorem dL_emit_197 : decode cL_emit 197 = .ok (.iload_n 1, 1) := by decide +kernel
theorem dL_emit_198 : decode cL_emit 198 = .ok (.bipush 8, 2) := by decide +kernel
theorem dL_emit_200 : decode cL_emit 200 = .ok (.ishr, 1) := by decide +kernel
theorem dL_emit_201 : decode cL_emit 201 = .ok (.iconst 1, 1) := by decide +kernel
theorem dL_emit_202 : decode cL_emit 202 = .ok (.iand, 1) := by decide +kernel
theorem dL_emit_203 : decode cL_emit 203 = .ok (.iadd, 1) := by decide +kernel
theorem dL_emit_204 : decode cL_emit 204 = .ok (.invokevirtual 15, 3) := by decide +kernel
theorem dL_emit_207 : decode cL_emit 207 = .ok (.ireturn, 1) := by decide +kernel
theorem dL_emit_208 : decode cL_emit 208 = .ok (.aload_n 0, 1) := by decide +kernel
theorem dL_emit_209 : decode cL_emit 209 = .ok (.bipush 12, 2) := by decide +kernel
theorem dL_emit_211 : decode cL_emit 211 = .ok (.iconst 0, 1) := by decide +kernel
theorem dL_emit_212 : decode cL_emit 212 = .ok (.invokevirtual 15, 3) := by decide +kernel
theorem dL_emit_215 : decode cL_emit 215 = .ok (.ireturn, 1) := by decide +kernel
theorem dL_emit_216 : decode cL_emit 216 = .ok (.aload_n 0, 1) := by decide +kernel
theorem dL_emit_217 : decode cL_emit 217 = .ok (.bipush 25, 2) := by decide +kernel
theorem dL_emit_219 : decode cL_emit 219 = .ok (.iload 4, 2) := by decide +kernel
theorem dL_emit_221 : decode cL_emit 221 = .ok (.invokevirtual 15, 3) := by decide +kernel
theorem dL_emit_224 : decode cL_emit 224 = .ok (.ireturn, 1) := by decide +kernel
theorem dL_emit_225 : decode cL_emit 225 = .ok (.aload_n 0, 1) := by decide +kernel
theorem dL_emit_226 : decode cL_emit 226 = .ok (.bipush 44, 2) := by decide +kernel
theorem dL_emit_228 : decode cL_emit 228 = .ok (.bipush 16, 2) := by decide +kernel
theorem dL_emit_230 : decode cL_emit 230 = .ok (.bipush 8, 2) := by decide +kernel
theorem dL_emit_232 : decode cL_emit 232 = .ok (.iload_n 1, 1) := by decide +kernel
theorem dL_emit_233 : decode cL_emit 233 = .ok (.bipush 8, 2) := by decide +kernel
theorem dL_emit_235 : decode cL_emit 235 = .ok (.ishr, 1) := by decide +kernel
theorem dL_emit_236 : decode cL_emit 236 = .ok (.iconst 3, 1) := by decide +kernel
theorem dL_emit_237 : decode cL_emit 237 = .ok (.invokestatic 9, 3) := by decide +kernel
theorem dL_emit_240 : decode cL_emit 240 = .ok (.imul, 1) := by decide +kernel
theorem dL_emit_241 : decode cL_emit 241 = .ok (.iadd, 1) := by decide +kernel
theorem dL_emit_242 : decode cL_emit 242 = .ok (.invokevirtual 15, 3) := by decide +kernel
theorem dL_emit_245 : decode cL_emit 245 = .ok (.ireturn, 1) := by decide +kernel
theorem dL_emit_246 : decode cL_emit 246 = .ok (.aload_n 0, 1) := by decide +kernel
theorem dL_emit_247 : decode cL_emit 247 = .ok (.bipush 30, 2) := by decide +kernel
theorem dL_emit_249 : decode cL_emit 249 = .ok (.iconst 0, 1) := by decide +kernel
theorem dL_emit_250 : decode cL_emit 250 = .ok (.invokevirtual 15, 3) := by decide +kernel
theorem dL_emit_253 : decode cL_emit 253 = .ok (.ireturn, 1) := by decide +kernel
theorem dL_isWhole_0 : decode cL_isWhole 0 = .ok (.iconst 0, 1) := by decide +kernel
theorem dL_isWhole_1 : decode cL_isWhole 1 = .ok (.istore_n 2, 1) := by decide +kernel
theorem dL_isWhole_2 : decode cL_isWhole 2 = .ok (.iload_n 2, 1) := by decide +kernel
theorem dL_isWhole_3 : decode cL_isWhole 3 = .ok (.iconst 3, 1) := by decide +kernel
theorem dL_isWhole_4 : decode cL_isWhole 4 = .ok (.if_icmp .ge 55, 3) := by decide +kernel
theorem dL_isWhole_7 : decode cL_isWhole 7 = .ok (.aload_n 0, 1) := by decide +kernel
theorem dL_isWhole_8 : decode cL_isWhole 8 = .ok (.iload_n 1, 1) := by decide +kernel
theorem dL_isWhole_9 : decode cL_isWhole 9 = .ok (.iload_n 2, 1) := by decide +kernel
theorem dL_isWhole_10 : decode cL_isWhole 10 = .ok (.invokevirtual 20, 3) := by decide +kernel
theorem dL_isWhole_13 : decode cL_isWhole 13 = .ok (.bipush 8, 2) := by decide +kernel
theorem dL_isWhole_15 : decode cL_isWhole 15 = .ok (.if_icmp .ne 7, 3) := by decide +kernel
theorem dL_isWhole_18 : decode cL_isWhole 18 = .ok (.iconst 1, 1) := by decide +kernel
theorem dL_isWhole_19 : decode cL_isWhole 19 = .ok (.goto 4, 3) := by decide +kernel
theorem dL_isWhole_22 : decode cL_isWhole 22 = .ok (.iconst 0, 1) := by decide +kernel
theorem dL_isWhole_23 : decode cL_isWhole 23 = .ok (.istore_n 3, 1) := by decide +kernel
theorem dL_isWhole_24 : decode cL_isWhole 24 = .ok (.iload_n 3, 1) := by decide +kernel
theorem dL_isWhole_25 : decode cL_isWhole 25 = .ok (.iload_n 2, 1) := by decide +kernel
theorem dL_isWhole_26 : decode cL_isWhole 26 = .ok (.iconst 2, 1) := by decide +kernel
theorem dL_isWhole_27 : decode cL_isWhole 27 = .ok (.if_icmp .ge 20, 3) := by decide +kernel
theorem dL_isWhole_30 : decode cL_isWhole 30 = .ok (.aload_n 0, 1) := by decide +kernel
theorem dL_isWhole_31 : decode cL_isWhole 31 = .ok (.iload_n 1, 1) := by decide +kernel
theorem dL_isWhole_32 : decode cL_isWhole 32 = .ok (.iload_n 2, 1) := by decide +kernel
theorem dL_isWhole_33 : decode cL_isWhole 33 = .ok (.iconst 1, 1) := by decide +kernel
theorem dL_isWhole_34 : decode cL_isWhole 34 = .ok (.iadd, 1) := by decide +kernel
theorem dL_isWhole_35 : decode cL_isWhole 35 = .ok (.invokevirtual 20, 3) := by decide +kernel
theorem dL_isWhole_38 : decode cL_isWhole 38 = .ok (.bipush (-3), 2) := by decide +kernel
theorem dL_isWhole_40 : decode cL_isWhole 40 = .ok (.if_icmp .ne 7, 3) := by decide +kernel
theorem dL_isWhole_43 : decode cL_isWhole 43 = .ok (.iconst 1, 1) := by decide +kernel
theorem dL_isWhole_44 : decode cL_isWhole 44 = .ok (.goto 4, 3) := by decide +kernel
theorem dL_isWhole_47 : decode cL_isWhole 47 = .ok (.iconst 0, 1) := by decide +kernel
theorem dL_isWhole_48 : decode cL_isWhole 48 = .ok (.if_icmp .eq 5, 3) := by decide +kernel
theorem dL_isWhole_51 : decode cL_isWhole 51 = .ok (.iconst 0, 1) := by decide +kernel
theorem dL_isWhole_52 : decode cL_isWhole 52 = .ok (.ireturn, 1) := by decide +kernel
theorem dL_isWhole_53 : decode cL_isWhole 53 = .ok (.iinc 2 1, 3) := by decide +kernel
theorem dL_isWhole_56 : decode cL_isWhole 56 = .ok (.goto (-54), 3) := by decide +kernel
theorem dL_isWhole_59 : decode cL_isWhole 59 = .ok (.iconst 0, 1) := by decide +kernel
theorem dL_isWhole_60 : decode cL_isWhole 60 = .ok (.istore_n 2, 1) := by decide +kernel
theorem dL_isWhole_61 : decode cL_isWhole 61 = .ok (.iload_n 2, 1) := by decide +kernel
theorem dL_isWhole_62 : decode cL_isWhole 62 = .ok (.aload_n 0, 1) := by decide +kernel
theorem dL_isWhole_63 : decode cL_isWhole 63 = .ok (.iload_n 1, 1) := by decide +kernel
theorem dL_isWhole_64 : decode cL_isWhole 64 = .ok (.invokevirtual 23, 3) := by decide +kernel
theorem dL_isWhole_67 : decode cL_isWhole 67 = .ok (.if_icmp .ge 61, 3) := by decide +kernel
theorem dL_isWhole_70 : decode cL_isWhole 70 = .ok (.aload_n 0, 1) := by decide +kernel
theorem dL_isWhole_71 : decode cL_isWhole 71 = .ok (.iload_n 1, 1) := by decide +kernel
theorem dL_isWhole_72 : decode cL_isWhole 72 = .ok (.iload_n 2, 1) := by decide +kernel
theorem dL_isWhole_73 : decode cL_isWhole 73 = .ok (.invokevirtual 27, 3) := by decide +kernel
theorem dL_isWhole_76 : decode cL_isWhole 76 = .ok (.bipush 8, 2) := by decide +kernel
theorem dL_isWhole_78 : decode cL_isWhole 78 = .ok (.if_icmp .ne 7, 3) := by decide +kernel
theorem dL_isWhole_81 : decode cL_isWhole 81 = .ok (.iconst 1, 1) := by decide +kernel
theorem dL_isWhole_82 : decode cL_isWhole 82 = .ok (.goto 4, 3) := by decide +kernel
theorem dL_isWhole_85 : decode cL_isWhole 85 = .ok (.iconst 0, 1) := by decide +kernel
theorem dL_isWhole_86 : decode cL_isWhole 86 = .ok (.istore_n 3, 1) := by decide +kernel
theorem dL_isWhole_87 : decode cL_isWhole 87 = .ok (.iload_n 3, 1) := by decide +kernel
theorem dL_isWhole_88 : decode cL_isWhole 88 = .ok (.iload_n 2, 1) := by decide +kernel
theorem dL_isWhole_89 : decode cL_isWhole 89 = .ok (.iconst 1, 1) := by decide +kernel
theorem dL_isWhole_90 : decode cL_isWhole 90 = .ok (.iadd, 1) := by decide +kernel
theorem dL_isWhole_91 : decode cL_isWhole 91 = .ok (.aload_n 0, 1) := by decide +kernel
theorem dL_isWhole_92 : decode cL_isWhole 92 = .ok (.iload_n 1, 1) := by decide +kernel
theorem dL_isWhole_93 : decode cL_isWhole 93 = .ok (.invokevirtual 23, 3) := by decide +kernel
theorem dL_isWhole_96 : decode cL_isWhole 96 = .ok (.if_icmp .ge 20, 3) := by decide +kernel
theorem dL_isWhole_99 : decode cL_isWhole 99 = .ok (.aload_n 0, 1) := by decide +kernel
theorem dL_isWhole_100 : decode cL_isWhole 100 = .ok (.iload_n 1, 1) := by decide +kernel
theorem dL_isWhole_101 : decode cL_isWhole 101 = .ok (.iload_n 2, 1) := by decide +kernel
theorem dL_isWhole_102 : decode cL_isWhole 102 = .ok (.iconst 1, 1) := by decide +kernel
theorem dL_isWhole_103 : decode cL_isWhole 103 = .ok (.iadd, 1) := by decide +kernel
theorem dL_isWhole_104 : decode cL_isWhole 104 = .ok (.invokevirtual 27, 3) := by decide +kernel
theorem dL_isWhole_107 : decode cL_isWhole 107 = .ok (.bipush (-3), 2) := by decide +kernel
theorem dL_isWhole_109 : decode cL_isWhole 109 = .ok (.if_icmp .ne 7, 3) := by decide +kernel
theorem dL_isWhole_112 : decode cL_isWhole 112 = .ok (.iconst 1, 1) := by decide +kernel
theorem dL_isWhole_113 : decode cL_isWhole 113 = .ok (.goto 4, 3) := by decide +kernel
theorem dL_isWhole_116 : decode cL_isWhole 116 = .ok (.iconst 0, 1) := by decide +kernel
theorem dL_isWhole_117 : decode cL_isWhole 117 = .ok (.if_icmp .eq 5, 3) := by decide +kernel
theorem dL_isWhole_120 : decode cL_isWhole 120 = .ok (.iconst 0, 1) := by decide +kernel
theorem dL_isWhole_121 : decode cL_isWhole 121 = .ok (.ireturn, 1) := by decide +kernel
theorem dL_isWhole_122 : decode cL_isWhole 122 = .ok (.iinc 2 1, 3) := by decide +kernel
theorem dL_isWhole_125 : decode cL_isWhole 125 = .ok (.goto (-64), 3) := by decide +kernel
theorem dL_isWhole_128 : decode cL_isWhole 128 = .ok (.aload_n 0, 1) := by decide +kernel
theorem dL_isWhole_129 : decode cL_isWhole 129 = .ok (.iload_n 1, 1) := by decide +kernel
theorem dL_isWhole_130 : decode cL_isWhole 130 = .ok (.invokevirtual 23, 3) := by decide +kernel
theorem dL_isWhole_133 : decode cL_isWhole 133 = .ok (.iconst 4, 1) := by decide +kernel
theorem dL_isWhole_134 : decode cL_isWhole 134 = .ok (.if_icmp .gt 7, 3) := by decide +kernel
theorem dL_isWhole_137 : decode cL_isWhole 137 = .ok (.iconst 1, 1) := by decide +kernel
theorem dL_isWhole_138 : decode cL_isWhole 138 = .ok (.goto 4, 3) := by decide +kernel
theorem dL_isWhole_141 : decode cL_isWhole 141 = .ok (.iconst 0, 1) := by decide +kernel
theorem dL_isWhole_142 : decode cL_isWhole 142 = .ok (.ireturn, 1) := by decide +kernel
theorem dL_law_0 : decode cL_law 0 = .ok (.new 16, 3) := by decide +kernel
theorem dL_law_3 : decode cL_law 3 = .ok (.dup, 1) := by decide +kernel
theorem dL_law_4 : decode cL_law 4 = .ok (.invokespecial 30, 3) := by decide +kernel
theorem dL_law_7 : decode cL_law 7 = .ok (.astore_n 1, 1) := by decide +kernel
theorem dL_law_8 : decode cL_law 8 = .ok (.aload_n 1, 1) := by decide +kernel
theorem dL_law_9 : decode cL_law 9 = .ok (.iconst 2, 1) := by decide +kernel
theorem dL_law_10 : decode cL_law 10 = .ok (.iconst 0, 1) := by decide +kernel
theorem dL_law_11 : decode cL_law 11 = .ok (.invokevirtual 31, 3) := by decide +kernel
theorem dL_law_14 : decode cL_law 14 = .ok (.iconst 3, 1) := by decide +kernel
theorem dL_law_15 : decode cL_law 15 = .ok (.if_icmp .ne 42, 3) := by decide +kernel
theorem dL_law_18 : decode cL_law 18 = .ok (.aload_n 1, 1) := by decide +kernel
theorem dL_law_19 : decode cL_law 19 = .ok (.iconst 3, 1) := by decide +kernel
theorem dL_law_20 : decode cL_law 20 = .ok (.iconst 0, 1) := by decide +kernel
theorem dL_law_21 : decode cL_law 21 = .ok (.invokevirtual 31, 3) := by decide +kernel
theorem dL_law_24 : decode cL_law 24 = .ok (.iconst 4, 1) := by decide +kernel
theorem dL_law_25 : decode cL_law 25 = .ok (.if_icmp .ne 32, 3) := by decide +kernel
theorem dL_law_28 : decode cL_law 28 = .ok (.aload_n 1, 1) := by decide +kernel
theorem dL_law_29 : decode cL_law 29 = .ok (.iconst 0, 1) := by decide +kernel
theorem dL_law_30 : decode cL_law 30 = .ok (.invokevirtual 35, 3) := by decide +kernel
theorem dL_law_33 : decode cL_law 33 = .ok (.iconst 1, 1) := by decide +kernel
theorem dL_law_34 : decode cL_law 34 = .ok (.if_icmp .ne 23, 3) := by decide +kernel
theorem dL_law_37 : decode cL_law 37 = .ok (.aload_n 1, 1) := by decide +kernel
theorem dL_law_38 : decode cL_law 38 = .ok (.bipush 24, 2) := by decide +kernel
theorem dL_law_40 : decode cL_law 40 = .ok (.invokevirtual 35, 3) := by decide +kernel
theorem dL_law_43 : decode cL_law 43 = .ok (.iconst 2, 1) := by decide +kernel
theorem dL_law_44 : decode cL_law 44 = .ok (.if_icmp .ne 13, 3) := by decide +kernel
theorem dL_law_47 : decode cL_law 47 = .ok (.aload_n 1, 1) := by decide +kernel
theorem dL_law_48 : decode cL_law 48 = .ok (.iconst 2, 1) := by decide +kernel
theorem dL_law_49 : decode cL_law 49 = .ok (.iconst 1, 1) := by decide +kernel
theorem dL_law_50 : decode cL_law 50 = .ok (.iconst (-1), 1) := by decide +kernel
theorem dL_law_51 : decode cL_law 51 = .ok (.invokevirtual 38, 3) := by decide +kernel
theorem dL_law_54 : decode cL_law 54 = .ok (.ifCond .eq 5, 3) := by decide +kernel
theorem dL_law_57 : decode cL_law 57 = .ok (.iconst 0, 1) := by decide +kernel
theorem dL_law_58 : decode cL_law 58 = .ok (.ireturn, 1) := by decide +kernel
theorem dL_law_59 : decode cL_law 59 = .ok (.aload_n 1, 1) := by decide +kernel
theorem dL_law_60 : decode cL_law 60 = .ok (.iconst 3, 1) := by decide +kernel
theorem dL_law_61 : decode cL_law 61 = .ok (.iconst 2, 1) := by decide +kernel
theorem dL_law_62 : decode cL_law 62 = .ok (.iconst (-1), 1) := by decide +kernel
theorem dL_law_63 : decode cL_law 63 = .ok (.invokevirtual 38, 3) := by decide +kernel
theorem dL_law_66 : decode cL_law 66 = .ok (.iconst 1, 1) := by decide +kernel
theorem dL_law_67 : decode cL_law 67 = .ok (.if_icmp .ne 25, 3) := by decide +kernel
theorem dL_law_70 : decode cL_law 70 = .ok (.aload_n 1, 1) := by decide +kernel
theorem dL_law_71 : decode cL_law 71 = .ok (.iconst 4, 1) := by decide +kernel
theorem dL_law_72 : decode cL_law 72 = .ok (.iconst 2, 1) := by decide +kernel
theorem dL_law_73 : decode cL_law 73 = .ok (.iconst (-1), 1) := by decide +kernel
theorem dL_law_74 : decode cL_law 74 = .ok (.invokevirtual 38, 3) := by decide +kernel
theorem dL_law_77 : decode cL_law 77 = .ok (.iconst 2, 1) := by decide +kernel
theorem dL_law_78 : decode cL_law 78 = .ok (.if_icmp .ne 14, 3) := by decide +kernel
theorem dL_law_81 : decode cL_law 81 = .ok (.aload_n 1, 1) := by decide +kernel
theorem dL_law_82 : decode cL_law 82 = .ok (.iconst 0, 1) := by decide +kernel
theorem dL_law_83 : decode cL_law 83 = .ok (.iconst 4, 1) := by decide +kernel
theorem dL_law_84 : decode cL_law 84 = .ok (.iconst 3, 1) := by decide +kernel
theorem dL_law_85 : decode cL_law 85 = .ok (.invokevirtual 42, 3) := by decide +kernel
theorem dL_law_88 : decode cL_law 88 = .ok (.iconst 2, 1) := by decide +kernel
theorem dL_law_89 : decode cL_law 89 = .ok (.if_icmp .eq 5, 3) := by decide +kernel
theorem dL_law_92 : decode cL_law 92 = .ok (.iconst 0, 1) := by decide +kernel
theorem dL_law_93 : decode cL_law 93 = .ok (.ireturn, 1) := by decide +kernel
theorem dL_law_94 : decode cL_law 94 = .ok (.iconst 3, 1) := by decide +kernel
theorem dL_law_95 : decode cL_law 95 = .ok (.aload_n 0, 1) := by decide +kernel
theorem dL_law_96 : decode cL_law 96 = .ok (.iconst 0, 1) := by decide +kernel
theorem dL_law_97 : decode cL_law 97 = .ok (.invokestatic 45, 3) := by decide +kernel
theorem dL_law_100 : decode cL_law 100 = .ok (.bipush 10, 2) := by decide +kernel
theorem dL_law_102 : decode cL_law 102 = .ok (.invokestatic 9, 3) := by decide +kernel
theorem dL_law_105 : decode cL_law 105 = .ok (.iadd, 1) := by decide +kernel
theorem dL_law_106 : decode cL_law 106 = .ok (.istore_n 2, 1) := by decide +kernel
theorem dL_law_107 : decode cL_law 107 = .ok (.iconst 0, 1) := by decide +kernel
theorem dL_law_108 : decode cL_law 108 = .ok (.istore_n 3, 1) := by decide +kernel
theorem dL_law_109 : decode cL_law 109 = .ok (.iload_n 3, 1) := by decide +kernel
theorem dL_law_110 : decode cL_law 110 = .ok (.iload_n 2, 1) := by decide +kernel
theorem dL_law_111 : decode cL_law 111 = .ok (.iconst 1, 1) := by decide +kernel
theorem dL_law_112 : decode cL_law 112 = .ok (.isub, 1) := by decide +kernel
theorem dL_law_113 : decode cL_law 113 = .ok (.if_icmp .ge 27, 3) := by decide +kernel
theorem dL_law_116 : decode cL_law 116 = .ok (.aload_n 1, 1) := by decide +kernel
theorem dL_law_117 : decode cL_law 117 = .ok (.aload_n 0, 1) := by decide +kernel
theorem dL_law_118 : decode cL_law 118 = .ok (.iload_n 3, 1) := by decide +kernel
theorem dL_law_119 : decode cL_law 119 = .ok (.iconst 1, 1) := by decide +kernel
theorem dL_law_120 : decode cL_law 120 = .ok (.iadd, 1) := by decide +kernel
theorem dL_law_121 : decode cL_law 121 = .ok (.invokestatic 45, 3) := by decide +kernel
theorem dL_law_124 : decode cL_law 124 = .ok (.iload_n 2, 1) := by decide +kernel
theorem dL_law_125 : decode cL_law 125 = .ok (.invokestatic 49, 3) := by decide +kernel
theorem dL_law_128 : decode cL_law 128 = .ok (.iload_n 3, 1) := by decide +kernel
theorem dL_law_129 : decode cL_law 129 = .ok (.if_icmp .eq 5, 3) := by decide +kernel
theorem dL_law_132 : decode cL_law 132 = .ok (.iconst 0, 1) := by decide +kernel
theorem dL_law_133 : decode cL_law 133 = .ok (.ireturn, 1) := by decide +kernel
theorem dL_law_134 : decode cL_law 134 = .ok (.iinc 3 1, 3) := by decide +kernel
theorem dL_law_137 : decode cL_law 137 = .ok (.goto (-28), 3) := by decide +kernel
theorem dL_law_140 : decode cL_law 140 = .ok (.aload_n 1, 1) := by decide +kernel
theorem dL_law_141 : decode cL_law 141 = .ok (.bipush 30, 2) := by decide +kernel
theorem dL_law_143 : decode cL_law 143 = .ok (.iconst 0, 1) := by decide +kernel
theorem dL_law_144 : decode cL_law 144 = .ok (.invokevirtual 15, 3) := by decide +kernel
theorem dL_law_147 : decode cL_law 147 = .ok (.iload_n 2, 1) := by decide +kernel
theorem dL_law_148 : decode cL_law 148 = .ok (.iconst 1, 1) := by decide +kernel
theorem dL_law_149 : decode cL_law 149 = .ok (.isub, 1) := by decide +kernel
theorem dL_law_150 : decode cL_law 150 = .ok (.if_icmp .eq 5, 3) := by decide +kernel
theorem dL_law_153 : decode cL_law 153 = .ok (.iconst 0, 1) := by decide +kernel
theorem dL_law_154 : decode cL_law 154 = .ok (.ireturn, 1) := by decide +kernel
theorem dL_law_155 : decode cL_law 155 = .ok (.aload_n 0, 1) := by decide +kernel
theorem dL_law_156 : decode cL_law 156 = .ok (.bipush 20, 2) := by decide +kernel
theorem dL_law_158 : decode cL_law 158 = .ok (.invokestatic 45, 3) := by decide +kernel
theorem dL_law_161 : decode cL_law 161 = .ok (.iload_n 2, 1) := by decide +kernel
theorem dL_law_162 : decode cL_law 162 = .ok (.invokestatic 9, 3) := by decide +kernel
theorem dL_law_165 : decode cL_law 165 = .ok (.istore_n 3, 1) := by decide +kernel
theorem dL_law_166 : decode cL_law 166 = .ok (.iload_n 3, 1) := by decide +kernel
theorem dL_law_167 : decode cL_law 167 = .ok (.iconst 1, 1) := by decide +kernel
theorem dL_law_168 : decode cL_law 168 = .ok (.iadd, 1) := by decide +kernel
theorem dL_law_169 : decode cL_law 169 = .ok (.aload_n 0, 1) := by decide +kernel
theorem dL_law_170 : decode cL_law 170 = .ok (.bipush 21, 2) := by decide +kernel
theorem dL_law_172 : decode cL_law 172 = .ok (.invokestatic 45, 3) := by decide +kernel
theorem dL_law_175 : decode cL_law 175 = .ok (.iload_n 2, 1) := by decide +kernel
theorem dL_law_176 : decode cL_law 176 = .ok (.iload_n 3, 1) := by decide +kernel
theorem dL_law_177 : decode cL_law 177 = .ok (.isub, 1) := by decide +kernel
theorem dL_law_178 : decode cL_law 178 = .ok (.invokestatic 9, 3) := by decide +kernel
theorem dL_law_181 : decode cL_law 181 = .ok (.iadd, 1) := by decide +kernel
theorem dL_law_182 : decode cL_law 182 = .ok (.istore 4, 2) := by decide +kernel
theorem dL_law_184 : decode cL_law 184 = .ok (.aload_n 0, 1) := by decide +kernel
theorem dL_law_185 : decode cL_law 185 = .ok (.bipush 22, 2) := by decide +kernel
theorem dL_law_187 : decode cL_law 187 = .ok (.invokestatic 45, 3) := by decide +kernel
theorem dL_law_190 : decode cL_law 190 = .ok (.iconst 1, 1) := by decide +kernel
theorem dL_law_191 : decode cL_law 191 = .ok (.iand, 1) := by decide +kernel
theorem dL_law_192 : decode cL_law 192 = .ok (.iconst 1, 1) := by decide +kernel
theorem dL_law_193 : decode cL_law 193 = .ok (.if_icmp .ne 26, 3) := by decide +kernel
theorem dL_law_196 : decode cL_law 196 = .ok (.aload_n 1, 1) := by decide +kernel
theorem dL_law_197 : decode cL_law 197 = .ok (.iload_n 3, 1) := by decide +kernel
theorem dL_law_198 : decode cL_law 198 = .ok (.iload 4, 2) := by decide +kernel
theorem dL_law_200 : decode cL_law 200 = .ok (.aload_n 0, 1) := by decide +kernel
theorem dL_law_201 : decode cL_law 201 = .ok (.bipush 23, 2) := by decide +kernel
theorem dL_law_203 : decode cL_law 203 = .ok (.invokestatic 45, 3) := by decide +kernel
theorem dL_law_206 : decode cL_law 206 = .ok (.iload_n 2, 1) := by decide +kernel
theorem dL_law_207 : decode cL_law 207 = .ok (.invokestatic 9, 3) := by decide +kernel
theorem dL_law_210 : decode cL_law 210 = .ok (.iconst 3, 1) := by decide +kernel
theorem dL_law_211 : decode cL_law 211 = .ok (.invokevirtual 52, 3) := by decide +kernel
theorem dL_law_214 : decode cL_law 214 = .ok (.ifCond .eq 5, 3) := by decide +kernel
theorem dL_law_217 : decode cL_law 217 = .ok (.iconst 0, 1) := by decide +kernel
theorem dL_law_218 : decode cL_law 218 = .ok (.ireturn, 1) := by decide +kernel
theorem dL_law_219 : decode cL_law 219 = .ok (.aload_n 1, 1) := by decide +kernel
theorem dL_law_220 : decode cL_law 220 = .ok (.invokevirtual 56, 3) := by decide +kernel
theorem dL_law_223 : decode cL_law 223 = .ok (.istore 5, 2) := by decide +kernel
theorem dL_law_225 : decode cL_law 225 = .ok (.aload_n 1, 1) := by decide +kernel
theorem dL_law_226 : decode cL_law 226 = .ok (.invokevirtual 60, 3) := by decide +kernel
theorem dL_law_229 : decode cL_law 229 = .ok (.istore 6, 2) := by decide +kernel
theorem dL_law_231 : decode cL_law 231 = .ok (.aload_n 1, 1) := by decide +kernel
theorem dL_law_232 : decode cL_law 232 = .ok (.invokevirtual 63, 3) := by decide +kernel
theorem dL_law_235 : decode cL_law 235 = .ok (.lstore 7, 2) := by decide +kernel
theorem dL_law_237 : decode cL_law 237 = .ok (.iload 5, 2) := by decide +kernel
theorem dL_law_239 : decode cL_law 239 = .ok (.ifCond .ne 7, 3) := by decide +kernel
theorem dL_law_242 : decode cL_law 242 = .ok (.iconst 1, 1) := by decide +kernel
theorem dL_law_243 : decode cL_law 243 = .ok (.goto 4, 3) := by decide +kernel
theorem dL_law_246 : decode cL_law 246 = .ok (.iconst 0, 1) := by decide +kernel
theorem dL_law_247 : decode cL_law 247 = .ok (.iload 6, 2) := by decide +kernel
theorem dL_law_249 : decode cL_law 249 = .ok (.iconst (-1), 1) := by decide +kernel
theorem dL_law_250 : decode cL_law 250 = .ok (.if_icmp .ne 7, 3) := by decide +kernel
theorem dL_law_253 : decode cL_law 253 = .ok (.iconst 1, 1) := by decide +kernel
theorem dL_law_254 : decode cL_law 254 = .ok (.goto 4, 3) := by decide +kernel
theorem dL_law_257 : decode cL_law 257 = .ok (.iconst 0, 1) := by decide +kernel
theorem dL_law_258 : decode cL_law 258 = .ok (.if_icmp .ne 29, 3) := by decide +kernel
theorem dL_law_261 : decode cL_law 261 = .ok (.iload 5, 2) := by decide +kernel
theorem dL_law_263 : decode cL_law 263 = .ok (.iconst 1, 1) := by decide +kernel
theorem dL_law_264 : decode cL_law 264 = .ok (.if_icmp .eq 23, 3) := by decide +kernel
theorem dL_law_267 : decode cL_law 267 = .ok (.iload 5, 2) := by decide +kernel
theorem dL_law_269 : decode cL_law 269 = .ok (.iconst 2, 1) := by decide +kernel
theorem dL_law_270 : decode cL_law 270 = .ok (.if_icmp .eq 17, 3) := by decide +kernel
theorem dL_law_273 : decode cL_law 273 = .ok (.iload 5, 2) := by decide +kernel
theorem dL_law_275 : decode cL_law 275 = .ok (.bipush 7, 2) := by decide +kernel
theorem dL_law_277 : decode cL_law 277 = .ok (.if_icmp .eq 10, 3) := by decide +kernel
theorem dL_law_280 : decode cL_law 280 = .ok (.iload 5, 2) := by decide +kernel
theorem dL_law_282 : decode cL_law 282 = .ok (.bipush 10, 2) := by decide +kernel
theorem dL_law_284 : decode cL_law 284 = .ok (.if_icmp .le 5, 3) := by decide +kernel
theorem dL_law_287 : decode cL_law 287 = .ok (.iconst 0, 1) := by decide +kernel
theorem dL_law_288 : decode cL_law 288 = .ok (.ireturn, 1) := by decide +kernel
theorem dL_law_289 : decode cL_law 289 = .ok (.aload_n 1, 1) := by decide +kernel
theorem dL_law_290 : decode cL_law 290 = .ok (.invokevirtual 56, 3) := by decide +kernel
theorem dL_law_293 : decode cL_law 293 = .ok (.iload 5, 2) := by decide +kernel
theorem dL_law_295 : decode cL_law 295 = .ok (.if_icmp .ne 22, 3) := by decide +kernel
theorem dL_law_298 : decode cL_law 298 = .ok (.aload_n 1, 1) := by decide +kernel
theorem dL_law_299 : decode cL_law 299 = .ok (.invokevirtual 60, 3) := by decide +kernel
theorem dL_law_302 : decode cL_law 302 = .ok (.iload 6, 2) := by decide +kernel
theorem dL_law_304 : decode cL_law 304 = .ok (.if_icmp .ne 13, 3) := by decide +kernel
theorem dL_law_307 : decode cL_law 307 = .ok (.aload_n 1, 1) := by decide +kernel
theorem dL_law_308 : decode cL_law 308 = .ok (.invokevirtual 63, 3) := by decide +kernel
theorem dL_law_311 : decode cL_law 311 = .ok (.lload 7, 2) := by decide +kernel
theorem dL_law_313 : decode cL_law 313 = .ok (.lcmp, 1) := by decide +kernel
theorem dL_law_314 : decode cL_law 314 = .ok (.ifCond .eq 5, 3) := by decide +kernel
theorem dL_law_317 : decode cL_law 317 = .ok (.iconst 0, 1) := by decide +kernel
theorem dL_law_318 : decode cL_law 318 = .ok (.ireturn, 1) := by decide +kernel
theorem dL_law_319 : decode cL_law 319 = .ok (.iconst 1, 1) := by decide +kernel
theorem dL_law_320 : decode cL_law 320 = .ok (.istore 9, 2) := by decide +kernel
theorem dL_law_322 : decode cL_law 322 = .ok (.iconst 0, 1) := by decide +kernel
theorem dL_law_323 : decode cL_law 323 = .ok (.istore 10, 2) := by decide +kernel
theorem dL_law_325 : decode cL_law 325 = .ok (.iload 10, 2) := by decide +kernel
theorem dL_law_327 : decode cL_law 327 = .ok (.iload_n 2, 1) := by decide +kernel
theorem dL_law_328 : decode cL_law 328 = .ok (.if_icmp .ge 69, 3) := by decide +kernel
theorem dL_law_331 : decode cL_law 331 = .ok (.iload 5, 2) := by decide +kernel
theorem dL_law_333 : decode cL_law 333 = .ok (.ifCond .eq 12, 3) := by decide +kernel
theorem dL_law_336 : decode cL_law 336 = .ok (.aload_n 1, 1) := by decide +kernel
theorem dL_law_337 : decode cL_law 337 = .ok (.iload 10, 2) := by decide +kernel
theorem dL_law_339 : decode cL_law 339 = .ok (.invokevirtual 67, 3) := by decide +kernel
theorem dL_law_342 : decode cL_law 342 = .ok (.ifCond .ne 26, 3) := by decide +kernel
theorem dL_law_345 : decode cL_law 345 = .ok (.iload 5, 2) := by decide +kernel
theorem dL_law_347 : decode cL_law 347 = .ok (.ifCond .ne 23, 3) := by decide +kernel
theorem dL_law_350 : decode cL_law 350 = .ok (.aload_n 1, 1) := by decide +kernel
theorem dL_law_351 : decode cL_law 351 = .ok (.iload 10, 2) := by decide +kernel
theorem dL_law_353 : decode cL_law 353 = .ok (.invokevirtual 67, 3) := by decide +kernel
theorem dL_law_356 : decode cL_law 356 = .ok (.ifCond .eq 14, 3) := by decide +kernel
theorem dL_law_359 : decode cL_law 359 = .ok (.aload_n 1, 1) := by decide +kernel
theorem dL_law_360 : decode cL_law 360 = .ok (.iload 10, 2) := by decide +kernel
theorem dL_law_362 : decode cL_law 362 = .ok (.invokestatic 71, 3) := by decide +kernel
theorem dL_law_365 : decode cL_law 365 = .ok (.ifCond .ne 5, 3) := by decide +kernel
theorem dL_law_368 : decode cL_law 368 = .ok (.iconst 0, 1) := by decide +kernel
theorem dL_law_369 : decode cL_law 369 = .ok (.ireturn, 1) := by decide +kernel
theorem dL_law_370 : decode cL_law 370 = .ok (.iload 9, 2) := by decide +kernel
theorem dL_law_372 : decode cL_law 372 = .ok (.ifCond .eq 16, 3) := by decide +kernel
theorem dL_law_375 : decode cL_law 375 = .ok (.aload_n 1, 1) := by decide +kernel
theorem dL_law_376 : decode cL_law 376 = .ok (.iload 10, 2) := by decide +kernel
theorem dL_law_378 : decode cL_law 378 = .ok (.invokevirtual 67, 3) := by decide +kernel
theorem dL_law_381 : decode cL_law 381 = .ok (.ifCond .eq 7, 3) := by decide +kernel
theorem dL_law_384 : decode cL_law 384 = .ok (.iconst 1, 1) := by decide +kernel
theorem dL_law_385 : decode cL_law 385 = .ok (.goto 4, 3) := by decide +kernel
theorem dL_law_388 : decode cL_law 388 = .ok (.iconst 0, 1) := by decide +kernel
theorem dL_law_389 : decode cL_law 389 = .ok (.istore 9, 2) := by decide +kernel
theorem dL_law_391 : decode cL_law 391 = .ok (.iinc 10 1, 3) := by decide +kernel
theorem dL_law_394 : decode cL_law 394 = .ok (.goto (-69), 3) := by decide +kernel
theorem dL_law_397 : decode cL_law 397 = .ok (.iload 5, 2) := by decide +kernel
theorem dL_law_399 : decode cL_law 399 = .ok (.ifCond .eq 5, 3) := by decide +kernel
theorem dL_law_402 : decode cL_law 402 = .ok (.iconst 1, 1) := by decide +kernel
theorem dL_law_403 : decode cL_law 403 = .ok (.ireturn, 1) := by decide +kernel
theorem dL_law_404 : decode cL_law 404 = .ok (.aload_n 1, 1) := by decide +kernel
theorem dL_law_405 : decode cL_law 405 = .ok (.invokevirtual 75, 3) := by decide +kernel
theorem dL_law_408 : decode cL_law 408 = .ok (.istore 10, 2) := by decide +kernel
theorem dL_law_410 : decode cL_law 410 = .ok (.iload 10, 2) := by decide +kernel
theorem dL_law_412 : decode cL_law 412 = .ok (.ifCond .lt 9, 3) := by decide +kernel
theorem dL_law_415 : decode cL_law 415 = .ok (.iload 10, 2) := by decide +kernel
theorem dL_law_417 : decode cL_law 417 = .ok (.iload_n 2, 1) := by decide +kernel
theorem dL_law_418 : decode cL_law 418 = .ok (.if_icmp .le 5, 3) := by decide +kernel
theorem dL_law_421 : decode cL_law 421 = .ok (.iconst 0, 1) := by decide +kernel
theorem dL_law_422 : decode cL_law 422 = .ok (.ireturn, 1) := by decide +kernel
theorem dL_law_423 : decode cL_law 423 = .ok (.aload_n 1, 1) := by decide +kernel
theorem dL_law_424 : decode cL_law 424 = .ok (.invokevirtual 78, 3) := by decide +kernel
theorem dL_law_427 : decode cL_law 427 = .ok (.istore 11, 2) := by decide +kernel
theorem dL_law_429 : decode cL_law 429 = .ok (.iload 9, 2) := by decide +kernel
theorem dL_law_431 : decode cL_law 431 = .ok (.ifCond .eq 32, 3) := by decide +kernel
theorem dL_law_434 : decode cL_law 434 = .ok (.iload 11, 2) := by decide +kernel
theorem dL_law_436 : decode cL_law 436 = .ok (.ifCond .ne 23, 3) := by decide +kernel
theorem dL_law_439 : decode cL_law 439 = .ok (.aload_n 1, 1) := by decide +kernel
theorem dL_law_440 : decode cL_law 440 = .ok (.invokevirtual 81, 3) := by decide +kernel
theorem dL_law_443 : decode cL_law 443 = .ok (.iload_n 2, 1) := by decide +kernel
theorem dL_law_444 : decode cL_law 444 = .ok (.if_icmp .ne 15, 3) := by decide +kernel
theorem dL_law_447 : decode cL_law 447 = .ok (.aload_n 1, 1) := by decide +kernel
theorem dL_law_448 : decode cL_law 448 = .ok (.invokevirtual 60, 3) := by decide +kernel
theorem dL_law_451 : decode cL_law 451 = .ok (.iconst (-1), 1) := by decide +kernel
theorem dL_law_452 : decode cL_law 452 = .ok (.if_icmp .ne 7, 3) := by decide +kernel
theorem dL_law_455 : decode cL_law 455 = .ok (.iconst 1, 1) := by decide +kernel
theorem dL_law_456 : decode cL_law 456 = .ok (.goto 30, 3) := by decide +kernel
theorem dL_law_459 : decode cL_law 459 = .ok (.iconst 0, 1) := by decide +kernel
theorem dL_law_460 : decode cL_law 460 = .ok (.goto 26, 3) := by decide +kernel
theorem dL_law_463 : decode cL_law 463 = .ok (.iload 11, 2) := by decide +kernel
theorem dL_law_465 : decode cL_law 465 = .ok (.bipush 10, 2) := by decide +kernel
theorem dL_law_467 : decode cL_law 467 = .ok (.if_icmp .ne 18, 3) := by decide +kernel
theorem dL_law_470 : decode cL_law 470 = .ok (.aload_n 1, 1) := by decide +kernel
theorem dL_law_471 : decode cL_law 471 = .ok (.aload_n 1, 1) := by decide +kernel
theorem dL_law_472 : decode cL_law 472 = .ok (.invokevirtual 60, 3) := by decide +kernel
theorem dL_law_475 : decode cL_law 475 = .ok (.invokevirtual 67, 3) := by decide +kernel
theorem dL_law_478 : decode cL_law 478 = .ok (.ifCond .ne 7, 3) := by decide +kernel
theorem dL_law_481 : decode cL_law 481 = .ok (.iconst 1, 1) := by decide +kernel
theorem dL_law_482 : decode cL_law 482 = .ok (.goto 4, 3) := by decide +kernel
theorem dL_law_485 : decode cL_law 485 = .ok (.iconst 0, 1) := by decide +kernel
theorem dL_law_486 : decode cL_law 486 = .ok (.ireturn, 1) := by decide +kernel
