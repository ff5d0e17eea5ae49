theorem dX7_call_55 : decode cX7_call 55 = .ok (.iload_n 1, 1) := by decide +kernel
theorem dX7_call_56 : decode cX7_call 56 = .ok (.bipush 36, 2) := by decide +kernel
theorem dX7_call_58 : decode cX7_call 58 = .ok (.if_icmp .ne 19, 3) := by decide +kernel
theorem dX7_call_61 : decode cX7_call 61 = .ok (.aload_n 0, 1) := by decide +kernel
theorem dX7_call_62 : decode cX7_call 62 = .ok (.bipush 8, 2) := by decide +kernel
theorem dX7_call_64 : decode cX7_call 64 = .ok (.aload_n 0, 1) := by decide +kernel
theorem dX7_call_65 : decode cX7_call 65 = .ok (.getfield 15, 3) := by decide +kernel
theorem dX7_call_68 : decode cX7_call 68 = .ok (.getfield 162, 3) := by decide +kernel
theorem dX7_call_71 : decode cX7_call 71 = .ok (.iload_n 2, 1) := by decide +kernel
theorem dX7_call_72 : decode cX7_call 72 = .ok (.iaload, 1) := by decide +kernel
theorem dX7_call_73 : decode cX7_call 73 = .ok (.imul, 1) := by decide +kernel
theorem dX7_call_74 : decode cX7_call 74 = .ok (.invokevirtual 88, 3) := by decide +kernel
theorem dX7_call_77 : decode cX7_call 77 = .ok (.aload_n 0, 1) := by decide +kernel
theorem dX7_call_78 : decode cX7_call 78 = .ok (.getfield 15, 3) := by decide +kernel
theorem dX7_call_81 : decode cX7_call 81 = .ok (.getfield 110, 3) := by decide +kernel
theorem dX7_call_84 : decode cX7_call 84 = .ok (.iload_n 2, 1) := by decide +kernel
theorem dX7_call_85 : decode cX7_call 85 = .ok (.iaload, 1) := by decide +kernel
theorem dX7_call_86 : decode cX7_call 86 = .ok (.iconst (-1), 1) := by decide +kernel
theorem dX7_call_87 : decode cX7_call 87 = .ok (.if_icmp .eq 16, 3) := by decide +kernel
theorem dX7_call_90 : decode cX7_call 90 = .ok (.aload_n 0, 1) := by decide +kernel
theorem dX7_call_91 : decode cX7_call 91 = .ok (.aload_n 0, 1) := by decide +kernel
theorem dX7_call_92 : decode cX7_call 92 = .ok (.getfield 15, 3) := by decide +kernel
theorem dX7_call_95 : decode cX7_call 95 = .ok (.getfield 110, 3) := by decide +kernel
theorem dX7_call_98 : decode cX7_call 98 = .ok (.iload_n 2, 1) := by decide +kernel
theorem dX7_call_99 : decode cX7_call 99 = .ok (.iaload, 1) := by decide +kernel
theorem dX7_call_100 : decode cX7_call 100 = .ok (.invokevirtual 74, 3) := by decide +kernel
theorem dX7_call_103 : decode cX7_call 103 = .ok (.return_, 1) := by decide +kernel
theorem dX7_initialize_0 : decode cX7_initialize 0 = .ok (.aload_n 0, 1) := by decide +kernel
theorem dX7_initialize_1 : decode cX7_initialize 1 = .ok (.getfield 15, 3) := by decide +kernel
theorem dX7_initialize_4 : decode cX7_initialize 4 = .ok (.getfield 162, 3) := by decide +kernel
theorem dX7_initialize_7 : decode cX7_initialize 7 = .ok (.aload_n 0, 1) := by decide +kernel
theorem dX7_initialize_8 : decode cX7_initialize 8 = .ok (.getfield 19, 3) := by decide +kernel
theorem dX7_initialize_11 : decode cX7_initialize 11 = .ok (.getfield 115, 3) := by decide +kernel
theorem dX7_initialize_14 : decode cX7_initialize 14 = .ok (.iaload, 1) := by decide +kernel
theorem dX7_initialize_15 : decode cX7_initialize 15 = .ok (.istore_n 2, 1) := by decide +kernel
theorem dX7_initialize_16 : decode cX7_initialize 16 = .ok (.aload_n 0, 1) := by decide +kernel
theorem dX7_initialize_17 : decode cX7_initialize 17 = .ok (.invokevirtual 104, 3) := by decide +kernel
theorem dX7_initialize_20 : decode cX7_initialize 20 = .ok (.istore_n 3, 1) := by decide +kernel
theorem dX7_initialize_21 : decode cX7_initialize 21 = .ok (.iload_n 3, 1) := by decide +kernel
theorem dX7_initialize_22 : decode cX7_initialize 22 = .ok (.bipush (-4), 2) := by decide +kernel
theorem dX7_initialize_24 : decode cX7_initialize 24 = .ok (.if_icmp .ne 7, 3) := by decide +kernel
theorem dX7_initialize_27 : decode cX7_initialize 27 = .ok (.iconst 1, 1) := by decide +kernel
theorem dX7_initialize_28 : decode cX7_initialize 28 = .ok (.goto 4, 3) := by decide +kernel
theorem dX7_initialize_31 : decode cX7_initialize 31 = .ok (.iconst 0, 1) := by decide +kernel
theorem dX7_initialize_32 : decode cX7_initialize 32 = .ok (.istore 4, 2) := by decide +kernel
theorem dX7_initialize_34 : decode cX7_initialize 34 = .ok (.iload 4, 2) := by decide +kernel
theorem dX7_initialize_36 : decode cX7_initialize 36 = .ok (.ifCond .eq 31, 3) := by decide +kernel
theorem dX7_initialize_39 : decode cX7_initialize 39 = .ok (.iload_n 1, 1) := by decide +kernel
theorem dX7_initialize_40 : decode cX7_initialize 40 = .ok (.iload_n 2, 1) := by decide +kernel
theorem dX7_initialize_41 : decode cX7_initialize 41 = .ok (.if_icmp .eq 16, 3) := by decide +kernel
theorem dX7_initialize_44 : decode cX7_initialize 44 = .ok (.iload_n 1, 1) := by decide +kernel
theorem dX7_initialize_45 : decode cX7_initialize 45 = .ok (.aload_n 0, 1) := by decide +kernel
theorem dX7_initialize_46 : decode cX7_initialize 46 = .ok (.getfield 9, 3) := by decide +kernel
theorem dX7_initialize_49 : decode cX7_initialize 49 = .ok (.getfield 168, 3) := by decide +kernel
theorem dX7_initialize_52 : decode cX7_initialize 52 = .ok (.iload_n 2, 1) := by decide +kernel
theorem dX7_initialize_53 : decode cX7_initialize 53 = .ok (.iaload, 1) := by decide +kernel
theorem dX7_initialize_54 : decode cX7_initialize 54 = .ok (.if_icmp .ne 7, 3) := by decide +kernel
theorem dX7_initialize_57 : decode cX7_initialize 57 = .ok (.iconst 1, 1) := by decide +kernel
theorem dX7_initialize_58 : decode cX7_initialize 58 = .ok (.goto 4, 3) := by decide +kernel
theorem dX7_initialize_61 : decode cX7_initialize 61 = .ok (.iconst 0, 1) := by decide +kernel
theorem dX7_initialize_62 : decode cX7_initialize 62 = .ok (.istore 5, 2) := by decide +kernel
theorem dX7_initialize_64 : decode cX7_initialize 64 = .ok (.goto 31, 3) := by decide +kernel
theorem dX7_initialize_67 : decode cX7_initialize 67 = .ok (.iload_n 3, 1) := by decide +kernel
theorem dX7_initialize_68 : decode cX7_initialize 68 = .ok (.bipush (-10), 2) := by decide +kernel
theorem dX7_initialize_70 : decode cX7_initialize 70 = .ok (.if_icmp .gt 22, 3) := by decide +kernel
theorem dX7_initialize_73 : decode cX7_initialize 73 = .ok (.aload_n 0, 1) := by decide +kernel
theorem dX7_initialize_74 : decode cX7_initialize 74 = .ok (.getfield 19, 3) := by decide +kernel
theorem dX7_initialize_77 : decode cX7_initialize 77 = .ok (.bipush (-10), 2) := by decide +kernel
theorem dX7_initialize_79 : decode cX7_initialize 79 = .ok (.iload_n 3, 1) := by decide +kernel
theorem dX7_initialize_80 : decode cX7_initialize 80 = .ok (.isub, 1) := by decide +kernel
theorem dX7_initialize_81 : decode cX7_initialize 81 = .ok (.iload_n 1, 1) := by decide +kernel
theorem dX7_initialize_82 : decode cX7_initialize 82 = .ok (.invokevirtual 171, 3) := by decide +kernel
theorem dX7_initialize_85 : decode cX7_initialize 85 = .ok (.ifCond .eq 7, 3) := by decide +kernel
theorem dX7_initialize_88 : decode cX7_initialize 88 = .ok (.iconst 1, 1) := by decide +kernel
theorem dX7_initialize_89 : decode cX7_initialize 89 = .ok (.goto 4, 3) := by decide +kernel
theorem dX7_initialize_92 : decode cX7_initialize 92 = .ok (.iconst 0, 1) := by decide +kernel
theorem dX7_initialize_93 : decode cX7_initialize 93 = .ok (.istore 5, 2) := by decide +kernel
theorem dX7_initialize_95 : decode cX7_initialize 95 = .ok (.aload_n 0, 1) := by decide +kernel
theorem dX7_initialize_96 : decode cX7_initialize 96 = .ok (.iload 5, 2) := by decide +kernel
theorem dX7_initialize_98 : decode cX7_initialize 98 = .ok (.iconst 4, 1) := by decide +kernel
theorem dX7_initialize_99 : decode cX7_initialize 99 = .ok (.invokevirtual 80, 3) := by decide +kernel
theorem dX7_initialize_102 : decode cX7_initialize 102 = .ok (.aload_n 0, 1) := by decide +kernel
theorem dX7_initialize_103 : decode cX7_initialize 103 = .ok (.getfield 30, 3) := by decide +kernel
theorem dX7_initialize_106 : decode cX7_initialize 106 = .ok (.ifCond .ne 65, 3) := by decide +kernel
theorem dX7_initialize_109 : decode cX7_initialize 109 = .ok (.bipush 8, 2) := by decide +kernel
theorem dX7_initialize_111 : decode cX7_initialize 111 = .ok (.iload 4, 2) := by decide +kernel
theorem dX7_initialize_113 : decode cX7_initialize 113 = .ok (.ifCond .eq 7, 3) := by decide +kernel
theorem dX7_initialize_116 : decode cX7_initialize 116 = .ok (.iload_n 2, 1) := by decide +kernel
theorem dX7_initialize_117 : decode cX7_initialize 117 = .ok (.goto 4, 3) := by decide +kernel
theorem dX7_initialize_120 : decode cX7_initialize 120 = .ok (.iload_n 1, 1) := by decide +kernel
theorem dX7_initialize_121 : decode cX7_initialize 121 = .ok (.imul, 1) := by decide +kernel
theorem dX7_initialize_122 : decode cX7_initialize 122 = .ok (.istore 6, 2) := by decide +kernel
theorem dX7_initialize_124 : decode cX7_initialize 124 = .ok (.aload_n 0, 1) := by decide +kernel
theorem dX7_initialize_125 : decode cX7_initialize 125 = .ok (.getfield 26, 3) := by decide +kernel
theorem dX7_initialize_128 : decode cX7_initialize 128 = .ok (.iload_n 3, 1) := by decide +kernel
theorem dX7_initialize_129 : decode cX7_initialize 129 = .ok (.iload 6, 2) := by decide +kernel
theorem dX7_initialize_131 : decode cX7_initialize 131 = .ok (.invokevirtual 152, 3) := by decide +kernel
theorem dX7_initialize_134 : decode cX7_initialize 134 = .ok (.aload_n 0, 1) := by decide +kernel
theorem dX7_initialize_135 : decode cX7_initialize 135 = .ok (.getfield 26, 3) := by decide +kernel
theorem dX7_initialize_138 : decode cX7_initialize 138 = .ok (.iload_n 3, 1) := by decide +kernel
theorem dX7_initialize_139 : decode cX7_initialize 139 = .ok (.iload 6, 2) := by decide +kernel
theorem dX7_initialize_141 : decode cX7_initialize 141 = .ok (.invokevirtual 174, 3) := by decide +kernel
theorem dX7_initialize_144 : decode cX7_initialize 144 = .ok (.aload_n 0, 1) := by decide +kernel
theorem dX7_initialize_145 : decode cX7_initialize 145 = .ok (.getfield 26, 3) := by decide +kernel
theorem dX7_initialize_148 : decode cX7_initialize 148 = .ok (.aload_n 0, 1) := by decide +kernel
theorem dX7_initialize_149 : decode cX7_initialize 149 = .ok (.getfield 26, 3) := by decide +kernel
theorem dX7_initialize_152 : decode cX7_initialize 152 = .ok (.getfield 130, 3) := by decide +kernel
theorem dX7_initialize_155 : decode cX7_initialize 155 = .ok (.ifCond .eq 12, 3) := by decide +kernel
theorem dX7_initialize_158 : decode cX7_initialize 158 = .ok (.iload 4, 2) := by decide +kernel
theorem dX7_initialize_160 : decode cX7_initialize 160 = .ok (.ifCond .ne 7, 3) := by decide +kernel
theorem dX7_initialize_163 : decode cX7_initialize 163 = .ok (.iconst 1, 1) := by decide +kernel
theorem dX7_initialize_164 : decode cX7_initialize 164 = .ok (.goto 4, 3) := by decide +kernel
theorem dX7_initialize_167 : decode cX7_initialize 167 = .ok (.iconst 0, 1) := by decide +kernel
theorem dX7_initialize_168 : decode cX7_initialize 168 = .ok (.putfield 130, 3) := by decide +kernel
theorem dX7_initialize_171 : decode cX7_initialize 171 = .ok (.return_, 1) := by decide +kernel
theorem dX7_popFieldObject_0 : decode cX7_popFieldObject 0 = .ok (.aload_n 0, 1) := by decide +kernel
theorem dX7_popFieldObject_1 : decode cX7_popFieldObject 1 = .ok (.invokevirtual 104, 3) := by decide +kernel
theorem dX7_popFieldObject_4 : decode cX7_popFieldObject 4 = .ok (.istore_n 2, 1) := by decide +kernel
theorem dX7_popFieldObject_5 : decode cX7_popFieldObject 5 = .ok (.iload_n 2, 1) := by decide +kernel
theorem dX7_popFieldObject_6 : decode cX7_popFieldObject 6 = .ok (.bipush (-4), 2) := by decide +kernel
theorem dX7_popFieldObject_8 : decode cX7_popFieldObject 8 = .ok (.if_icmp .ne 26, 3) := by decide +kernel
theorem dX7_popFieldObject_11 : decode cX7_popFieldObject 11 = .ok (.iload_n 1, 1) := by decide +kernel
theorem dX7_popFieldObject_12 : decode cX7_popFieldObject 12 = .ok (.aload_n 0, 1) := by decide +kernel
theorem dX7_popFieldObject_13 : decode cX7_popFieldObject 13 = .ok (.getfield 15, 3) := by decide +kernel
theorem dX7_popFieldObject_16 : decode cX7_popFieldObject 16 = .ok (.getfield 162, 3) := by decide +kernel
theorem dX7_popFieldObject_19 : decode cX7_popFieldObject 19 = .ok (.aload_n 0, 1) := by decide +kernel
theorem dX7_popFieldObject_20 : decode cX7_popFieldObject 20 = .ok (.getfield 19, 3) := by decide +kernel
theorem dX7_popFieldObject_23 : decode cX7_popFieldObject 23 = .ok (.getfield 115, 3) := by decide +kernel
theorem dX7_popFieldObject_26 : decode cX7_popFieldObject 26 = .ok (.iaload, 1) := by decide +kernel
theorem dX7_popFieldObject_27 : decode cX7_popFieldObject 27 = .ok (.if_icmp .ne 7, 3) := by decide +kernel
theorem dX7_popFieldObject_30 : decode cX7_popFieldObject 30 = .ok (.iconst 1, 1) := by decide +kernel
theorem dX7_popFieldObject_31 : decode cX7_popFieldObject 31 = .ok (.goto 4, 3) := by decide +kernel
theorem dX7_popFieldObject_34 : decode cX7_popFieldObject 34 = .ok (.iconst 0, 1) := by decide +kernel
theorem dX7_popFieldObject_35 : decode cX7_popFieldObject 35 = .ok (.istore_n 3, 1) := by decide +kernel
theorem dX7_popFieldObject_36 : decode cX7_popFieldObject 36 = .ok (.aload_n 0, 1) := by decide +kernel
theorem dX7_popFieldObject_37 : decode cX7_popFieldObject 37 = .ok (.iload_n 3, 1) := by decide +kernel
theorem dX7_popFieldObject_38 : decode cX7_popFieldObject 38 = .ok (.ifCond .ne 18, 3) := by decide +kernel
theorem dX7_popFieldObject_41 : decode cX7_popFieldObject 41 = .ok (.aload_n 0, 1) := by decide +kernel
theorem dX7_popFieldObject_42 : decode cX7_popFieldObject 42 = .ok (.getfield 9, 3) := by decide +kernel
theorem dX7_popFieldObject_45 : decode cX7_popFieldObject 45 = .ok (.iload_n 2, 1) := by decide +kernel
theorem dX7_popFieldObject_46 : decode cX7_popFieldObject 46 = .ok (.bipush 8, 2) := by decide +kernel
theorem dX7_popFieldObject_48 : decode cX7_popFieldObject 48 = .ok (.iload_n 1, 1) := by decide +kernel
theorem dX7_popFieldObject_49 : decode cX7_popFieldObject 49 = .ok (.imul, 1) := by decide +kernel
theorem dX7_popFieldObject_50 : decode cX7_popFieldObject 50 = .ok (.invokevirtual 124, 3) := by decide +kernel
theorem dX7_popFieldObject_53 : decode cX7_popFieldObject 53 = .ok (.ifCond .eq 7, 3) := by decide +kernel
theorem dX7_popFieldObject_56 : decode cX7_popFieldObject 56 = .ok (.iconst 1, 1) := by decide +kernel
theorem dX7_popFieldObject_57 : decode cX7_popFieldObject 57 = .ok (.goto 4, 3) := by decide +kernel
theorem dX7_popFieldObject_60 : decode cX7_popFieldObject 60 = .ok (.iconst 0, 1) := by decide +kernel
theorem dX7_popFieldObject_61 : decode cX7_popFieldObject 61 = .ok (.iconst 4, 1) := by decide +kernel
theorem dX7_popFieldObject_62 : decode cX7_popFieldObject 62 = .ok (.invokevirtual 80, 3) := by decide +kernel
theorem dX7_popFieldObject_65 : decode cX7_popFieldObject 65 = .ok (.return_, 1) := by decide +kernel
theorem dX7_popAnyReference_0 : decode cX7_popAnyReference 0 = .ok (.aload_n 0, 1) := by decide +kernel
theorem dX7_popAnyReference_1 : decode cX7_popAnyReference 1 = .ok (.invokevirtual 104, 3) := by decide +kernel
theorem dX7_popAnyReference_4 : decode cX7_popAnyReference 4 = .ok (.istore_n 1, 1) := by decide +kernel
theorem dX7_popAnyReference_5 : decode cX7_popAnyReference 5 = .ok (.aload_n 0, 1) := by decide +kernel
theorem dX7_popAnyReference_6 : decode cX7_popAnyReference 6 = .ok (.iload_n 1, 1) := by decide +kernel
theorem dX7_popAnyReference_7 : decode cX7_popAnyReference 7 = .ok (.invokestatic 84, 3) := by decide +kernel
theorem dX7_popAnyReference_10 : decode cX7_popAnyReference 10 = .ok (.iconst 4, 1) := by decide +kernel
theorem dX7_popAnyReference_11 : decode cX7_popAnyReference 11 = .ok (.invokevirtual 80, 3) := by decide +kernel
theorem dX7_popAnyReference_14 : decode cX7_popAnyReference 14 = .ok (.iload_n 1, 1) := by decide +kernel
theorem dX7_popAnyReference_15 : decode cX7_popAnyReference 15 = .ok (.ireturn, 1) := by decide +kernel
theorem dX7_popReference_0 : decode cX7_popReference 0 = .ok (.aload_n 0, 1) := by decide +kernel
theorem dX7_popReference_1 : decode cX7_popReference 1 = .ok (.invokevirtual 104, 3) := by decide +kernel
theorem dX7_popReference_4 : decode cX7_popReference 4 = .ok (.istore_n 1, 1) := by decide +kernel
theorem dX7_popReference_5 : decode cX7_popReference 5 = .ok (.aload_n 0, 1) := by decide +kernel
theorem dX7_popReference_6 : decode cX7_popReference 6 = .ok (.iload_n 1, 1) := by decide +kernel
theorem dX7_popReference_7 : decode cX7_popReference 7 = .ok (.invokestatic 177, 3) := by decide +kernel
theorem dX7_popReference_10 : decode cX7_popReference 10 = .ok (.iconst 4, 1) := by decide +kernel
theorem dX7_popReference_11 : decode cX7_popReference 11 = .ok (.invokevirtual 80, 3) := by decide +kernel
theorem dX7_popReference_14 : decode cX7_popReference 14 = .ok (.iload_n 1, 1) := by decide +kernel
theorem dX7_popReference_15 : decode cX7_popReference 15 = .ok (.ireturn, 1) := by decide +kernel
theorem dX7_popReferenceArray_0 : decode cX7_popReferenceArray 0 = .ok (.aload_n 0, 1) := by decide +kernel
theorem dX7_popReferenceArray_1 : decode cX7_popReferenceArray 1 = .ok (.invokevirtual 104, 3) := by decide +kernel
theorem dX7_popReferenceArray_4 : decode cX7_popReferenceArray 4 = .ok (.istore_n 1, 1) := by decide +kernel
theorem dX7_popReferenceArray_5 : decode cX7_popReferenceArray 5 = .ok (.iload_n 1, 1) := by decide +kernel
theorem dX7_popReferenceArray_6 : decode cX7_popReferenceArray 6 = .ok (.iconst (-1), 1) := by decide +kernel
theorem dX7_popReferenceArray_7 : decode cX7_popReferenceArray 7 = .ok (.if_icmp .eq 19, 3) := by decide +kernel
theorem dX7_popReferenceArray_10 : decode cX7_popReferenceArray 10 = .ok (.iload_n 1, 1) := by decide +kernel
theorem dX7_popReferenceArray_11 : decode cX7_popReferenceArray 11 = .ok (.invokestatic 146, 3) := by decide +kernel
theorem dX7_popReferenceArray_14 : decode cX7_popReferenceArray 14 = .ok (.ifCond .eq 16, 3) := by decide +kernel
theorem dX7_popReferenceArray_17 : decode cX7_popReferenceArray 17 = .ok (.iload_n 1, 1) := by decide +kernel
theorem dX7_popReferenceArray_18 : decode cX7_popReferenceArray 18 = .ok (.iconst 1, 1) := by decide +kernel
theorem dX7_popReferenceArray_19 : decode cX7_popReferenceArray 19 = .ok (.isub, 1) := by decide +kernel
theorem dX7_popReferenceArray_20 : decode cX7_popReferenceArray 20 = .ok (.invokestatic 121, 3) := by decide +kernel
theorem dX7_popReferenceArray_23 : decode cX7_popReferenceArray 23 = .ok (.ifCond .eq 7, 3) := by decide +kernel
theorem dX7_popReferenceArray_26 : decode cX7_popReferenceArray 26 = .ok (.iconst 1, 1) := by decide +kernel
theorem dX7_popReferenceArray_27 : decode cX7_popReferenceArray 27 = .ok (.goto 4, 3) := by decide +kernel
theorem dX7_popReferenceArray_30 : decode cX7_popReferenceArray 30 = .ok (.iconst 0, 1) := by decide +kernel
theorem dX7_popReferenceArray_31 : decode cX7_popReferenceArray 31 = .ok (.istore_n 2, 1) := by decide +kernel
theorem dX7_popReferenceArray_32 : decode cX7_popReferenceArray 32 = .ok (.aload_n 0, 1) := by decide +kernel
theorem dX7_popReferenceArray_33 : decode cX7_popReferenceArray 33 = .ok (.iload_n 2, 1) := by decide +kernel
theorem dX7_popReferenceArray_34 : decode cX7_popReferenceArray 34 = .ok (.iconst 4, 1) := by decide +kernel
theorem dX7_popReferenceArray_35 : decode cX7_popReferenceArray 35 = .ok (.invokevirtual 80, 3) := by decide +kernel
theorem dX7_popReferenceArray_38 : decode cX7_popReferenceArray 38 = .ok (.iload_n 1, 1) := by decide +kernel
theorem dX7_popReferenceArray_39 : decode cX7_popReferenceArray 39 = .ok (.ireturn, 1) := by decide +kernel
theorem dX7_popWhole_0 : decode cX7_popWhole 0 = .ok (.aload_n 0, 1) := by decide +kernel
theorem dX7_popWhole_1 : decode cX7_popWhole 1 = .ok (.invokevirtual 104, 3) := by decide +kernel
theorem dX7_popWhole_4 : decode cX7_popWhole 4 = .ok (.istore_n 1, 1) := by decide +kernel
theorem dX7_popWhole_5 : decode cX7_popWhole 5 = .ok (.aload_n 0, 1) := by decide +kernel
theorem dX7_popWhole_6 : decode cX7_popWhole 6 = .ok (.iload_n 1, 1) := by decide +kernel
theorem dX7_popWhole_7 : decode cX7_popWhole 7 = .ok (.invokestatic 107, 3) := by decide +kernel
theorem dX7_popWhole_10 : decode cX7_popWhole 10 = .ok (.iconst 4, 1) := by decide +kernel
theorem dX7_popWhole_11 : decode cX7_popWhole 11 = .ok (.invokevirtual 80, 3) := by decide +kernel
theorem dX7_popWhole_14 : decode cX7_popWhole 14 = .ok (.iload_n 1, 1) := by decide +kernel
theorem dX7_popWhole_15 : decode cX7_popWhole 15 = .ok (.ireturn, 1) := by decide +kernel
theorem dX7_popOfType_0 : decode cX7_popOfType 0 = .ok (.iload_n 1, 1) := by decide +kernel
theorem dX7_popOfType_1 : decode cX7_popOfType 1 = .ok (.bipush 8, 2) := by decide +kernel
theorem dX7_popOfType_3 : decode cX7_popOfType 3 = .ok (.if_icmp .ne 38, 3) := by decide +kernel
theorem dX7_popOfType_6 : decode cX7_popOfType 6 = .ok (.aload_n 0, 1) := by decide +kernel
theorem dX7_popOfType_7 : decode cX7_popOfType 7 = .ok (.invokevirtual 104, 3) := by decide +kernel
theorem dX7_popOfType_10 : decode cX7_popOfType 10 = .ok (.istore_n 2, 1) := by decide +kernel
theorem dX7_popOfType_11 : decode cX7_popOfType 11 = .ok (.aload_n 0, 1) := by decide +kernel
theorem dX7_popOfType_12 : decode cX7_popOfType 12 = .ok (.invokevirtual 104, 3) := by decide +kernel
theorem dX7_popOfType_15 : decode cX7_popOfType 15 = .ok (.istore_n 3, 1) := by decide +kernel
theorem dX7_popOfType_16 : decode cX7_popOfType 16 = .ok (.aload_n 0, 1) := by decide +kernel
theorem dX7_popOfType_17 : decode cX7_popOfType 17 = .ok (.iload_n 3, 1) := by decide +kernel
theorem dX7_popOfType_18 : decode cX7_popOfType 18 = .ok (.bipush 8, 2) := by decide +kernel
theorem dX7_popOfType_20 : decode cX7_popOfType 20 = .ok (.if_icmp .ne 13, 3) := by decide +kernel
theorem dX7_popOfType_23 : decode cX7_popOfType 23 = .ok (.iload_n 2, 1) := by decide +kernel
theorem dX7_popOfType_24 : decode cX7_popOfType 24 = .ok (.bipush (-3), 2) := by decide +kernel
theorem dX7_popOfType_26 : decode cX7_popOfType 26 = .ok (.if_icmp .ne 7, 3) := by decide +kernel
theorem dX7_popOfType_29 : decode cX7_popOfType 29 = .ok (.iconst 1, 1) := by decide +kernel
theorem dX7_popOfType_30 : decode cX7_popOfType 30 = .ok (.goto 4, 3) := by decide +kernel
theorem dX7_popOfType_33 : decode cX7_popOfType 33 = .ok (.iconst 0, 1) := by decide +kernel
theorem dX7_popOfType_34 : decode cX7_popOfType 34 = .ok (.iconst 4, 1) := by decide +kernel
theorem dX7_popOfType_35 : decode cX7_popOfType 35 = .ok (.invokevirtual 80, 3) := by decide +kernel
theorem dX7_popOfType_38 : decode cX7_popOfType 38 = .ok (.goto 22, 3) := by decide +kernel
theorem dX7_popOfType_41 : decode cX7_popOfType 41 = .ok (.aload_n 0, 1) := by decide +kernel
theorem dX7_popOfType_42 : decode cX7_popOfType 42 = .ok (.invokevirtual 104, 3) := by decide +kernel
theorem dX7_popOfType_45 : decode cX7_popOfType 45 = .ok (.istore_n 2, 1) := by decide +kernel
theorem dX7_popOfType_46 : decode cX7_popOfType 46 = .ok (.aload_n 0, 1) := by decide +kernel
theorem dX7_popOfType_47 : decode cX7_popOfType 47 = .ok (.aload_n 0, 1) := by decide +kernel
theorem dX7_popOfType_48 : decode cX7_popOfType 48 = .ok (.getfield 9, 3) := by decide +kernel
theorem dX7_popOfType_51 : decode cX7_popOfType 51 = .ok (.iload_n 2, 1) := by decide +kernel
theorem dX7_popOfType_52 : decode cX7_popOfType 52 = .ok (.iload_n 1, 1) := by decide +kernel
theorem dX7_popOfType_53 : decode cX7_popOfType 53 = .ok (.invokevirtual 124, 3) := by decide +kernel
theorem dX7_popOfType_56 : decode cX7_popOfType 56 = .ok (.iconst 4, 1) := by decide +kernel
theorem dX7_popOfType_57 : decode cX7_popOfType 57 = .ok (.invokevirtual 80, 3) := by decide +kernel
theorem dX7_popOfType_60 : decode cX7_popOfType 60 = .ok (.return_, 1) := by decide +kernel
theorem dX7_popSlot_0 : decode cX7_popSlot 0 = .ok (.aload_n 0, 1) := by decide +kernel
theorem dX7_popSlot_1 : decode cX7_popSlot 1 = .ok (.aload_n 0, 1) := by decide +kernel
theorem dX7_popSlot_2 : decode cX7_popSlot 2 = .ok (.getfield 26, 3) := by decide +kernel
theorem dX7_popSlot_5 : decode cX7_popSlot 5 = .ok (.getfield 180, 3) := by decide +kernel
theorem dX7_popSlot_8 : decode cX7_popSlot 8 = .ok (.iconst 1, 1) := by decide +kernel
theorem dX7_popSlot_9 : decode cX7_popSlot 9 = .ok (.if_icmp .lt 7, 3) := by decide +kernel
theorem dX7_popSlot_12 : decode cX7_popSlot 12 = .ok (.iconst 1, 1) := by decide +kernel
theorem dX7_popSlot_13 : decode cX7_popSlot 13 = .ok (.goto 4, 3) := by decide +kernel
theorem dX7_popSlot_16 : decode cX7_popSlot 16 = .ok (.iconst 0, 1) := by decide +kernel
theorem dX7_popSlot_17 : decode cX7_popSlot 17 = .ok (.iconst 3, 1) := by decide +kernel
theorem dX7_popSlot_18 : decode cX7_popSlot 18 = .ok (.invokevirtual 80, 3) := by decide +kernel
theorem dX7_popSlot_21 : decode cX7_popSlot 21 = .ok (.aload_n 0, 1) := by decide +kernel
theorem dX7_popSlot_22 : decode cX7_popSlot 22 = .ok (.getfield 30, 3) := by decide +kernel
theorem dX7_popSlot_25 : decode cX7_popSlot 25 = .ok (.ifCond .eq 6, 3) := by decide +kernel
theorem dX7_popSlot_28 : decode cX7_popSlot 28 = .ok (.bipush (-2), 2) := by decide +kernel
theorem dX7_popSlot_30 : decode cX7_popSlot 30 = .ok (.ireturn, 1) := by decide +kernel
theorem dX7_popSlot_31 : decode cX7_popSlot 31 = .ok (.aload_n 0, 1) := by decide +kernel
theorem dX7_popSlot_32 : decode cX7_popSlot 32 = .ok (.getfield 26, 3) := by decide +kernel
theorem dX7_popSlot_35 : decode cX7_popSlot 35 = .ok (.dup, 1) := by decide +kernel
theorem dX7_popSlot_36 : decode cX7_popSlot 36 = .ok (.getfield 180, 3) := by decide +kernel
theorem dX7_popSlot_39 : decode cX7_popSlot 39 = .ok (.iconst 1, 1) := by decide +kernel
theorem dX7_popSlot_40 : decode cX7_popSlot 40 = .ok (.isub, 1) := by decide +kernel
theorem dX7_popSlot_41 : decode cX7_popSlot 41 = .ok (.putfield 180, 3) := by decide +kernel
theorem dX7_popSlot_44 : decode cX7_popSlot 44 = .ok (.aload_n 0, 1) := by decide +kernel
theorem dX7_popSlot_45 : decode cX7_popSlot 45 = .ok (.getfield 26, 3) := by decide +kernel
theorem dX7_popSlot_48 : decode cX7_popSlot 48 = .ok (.getfield 183, 3) := by decide +kernel
theorem dX7_popSlot_51 : decode cX7_popSlot 51 = .ok (.aload_n 0, 1) := by decide +kernel
theorem dX7_popSlot_52 : decode cX7_popSlot 52 = .ok (.getfield 26, 3) := by decide +kernel
theorem dX7_popSlot_55 : decode cX7_popSlot 55 = .ok (.getfield 180, 3) := by decide +kernel
theorem dX7_popSlot_58 : decode cX7_popSlot 58 = .ok (.iaload, 1) := by decide +kernel
theorem dX7_popSlot_59 : decode cX7_popSlot 59 = .ok (.ireturn, 1) := by decide +kernel
theorem dX7_pushOfType_0 : decode cX7_pushOfType 0 = .ok (.aload_n 0, 1) := by decide +kernel
theorem dX7_pushOfType_1 : decode cX7_pushOfType 1 = .ok (.iload_n 1, 1) := by decide +kernel
theorem dX7_pushOfType_2 : decode cX7_pushOfType 2 = .ok (.invokevirtual 71, 3) := by decide +kernel
theorem dX7_pushOfType_5 : decode cX7_pushOfType 5 = .ok (.iload_n 1, 1) := by decide +kernel
theorem dX7_pushOfType_6 : decode cX7_pushOfType 6 = .ok (.bipush 8, 2) := by decide +kernel
theorem dX7_pushOfType_8 : decode cX7_pushOfType 8 = .ok (.if_icmp .ne 9, 3) := by decide +kernel
theorem dX7_pushOfType_11 : decode cX7_pushOfType 11 = .ok (.aload_n 0, 1) := by decide +kernel
theorem dX7_pushOfType_12 : decode cX7_pushOfType 12 = .ok (.bipush (-3), 2) := by decide +kernel
theorem dX7_pushOfType_14 : decode cX7_pushOfType 14 = .ok (.invokevirtual 71, 3) := by decide +kernel
theorem dX7_pushOfType_17 : decode cX7_pushOfType 17 = .ok (.return_, 1) := by decide +kernel
theorem dX7_push_0 : decode cX7_push 0 = .ok (.aload_n 0, 1) := by decide +kernel
theorem dX7_push_1 : decode cX7_push 1 = .ok (.aload_n 0, 1) := by decide +kernel
theorem dX7_push_2 : decode cX7_push 2 = .ok (.getfield 26, 3) := by decide +kernel
theorem dX7_push_5 : decode cX7_push 5 = .ok (.getfield 180, 3) := by decide +kernel
theorem dX7_push_8 : decode cX7_push 8 = .ok (.aload_n 0, 1) := by decide +kernel
theorem dX7_push_9 : decode cX7_push 9 = .ok (.getfield 19, 3) := by decide +kernel
theorem dX7_push_12 : decode cX7_push 12 = .ok (.getfield 186, 3) := by decide +kernel
theorem dX7_push_15 : decode cX7_push 15 = .ok (.if_icmp .ge 7, 3) := by decide +kernel
theorem dX7_push_18 : decode cX7_push 18 = .ok (.iconst 1, 1) := by decide +kernel
theorem dX7_push_19 : decode cX7_push 19 = .ok (.goto 4, 3) := by decide +kernel
theorem dX7_push_22 : decode cX7_push 22 = .ok (.iconst 0, 1) := by decide +kernel
theorem dX7_push_23 : decode cX7_push 23 = .ok (.bipush 6, 2) := by decide +kernel
theorem dX7_push_25 : decode cX7_push 25 = .ok (.invokevirtual 80, 3) := by decide +kernel
theorem dX7_push_28 : decode cX7_push 28 = .ok (.aload_n 0, 1) := by decide +kernel
theorem dX7_push_29 : decode cX7_push 29 = .ok (.getfield 30, 3) := by decide +kernel
theorem dX7_push_32 : decode cX7_push 32 = .ok (.ifCond .ne 32, 3) := by decide +kernel
theorem dX7_push_35 : decode cX7_push 35 = .ok (.aload_n 0, 1) := by decide +kernel
theorem dX7_push_36 : decode cX7_push 36 = .ok (.getfield 26, 3) := by decide +kernel
theorem dX7_push_39 : decode cX7_push 39 = .ok (.getfield 183, 3) := by decide +kernel
theorem dX7_push_42 : decode cX7_push 42 = .ok (.aload_n 0, 1) := by decide +kernel
theorem dX7_push_43 : decode cX7_push 43 = .ok (.getfield 26, 3) := by decide +kernel
theorem dX7_push_46 : decode cX7_push 46 = .ok (.getfield 180, 3) := by decide +kernel
theorem dX7_push_49 : decode cX7_push 49 = .ok (.iload_n 1, 1) := by decide +kernel
theorem dX7_push_50 : decode cX7_push 50 = .ok (.iastore, 1) := by decide +kernel
theorem dX7_push_51 : decode cX7_push 51 = .ok (.aload_n 0, 1) := by decide +kernel
theorem dX7_push_52 : decode cX7_push 52 = .ok (.getfield 26, 3) := by decide +kernel
theorem dX7_push_55 : decode cX7_push 55 = .ok (.dup, 1) := by decide +kernel
theorem dX7_push_56 : decode cX7_push 56 = .ok (.getfield 180, 3) := by decide +kernel
theorem dX7_push_59 : decode cX7_push 59 = .ok (.iconst 1, 1) := by decide +kernel
theorem dX7_push_60 : decode cX7_push 60 = .ok (.iadd, 1) := by decide +kernel
theorem dX7_push_61 : decode cX7_push 61 = .ok (.putfield 180, 3) := by decide +kernel
theorem dX7_push_64 : decode cX7_push 64 = .ok (.return_, 1) := by decide +kernel
theorem dX7_store_0 : decode cX7_store 0 = .ok (.aload_n 0, 1) := by decide +kernel
theorem dX7_store_1 : decode cX7_store 1 = .ok (.iload_n 1, 1) := by decide +kernel
theorem dX7_store_2 : decode cX7_store 2 = .ok (.invokevirtual 189, 3) := by decide +kernel
theorem dX7_store_5 : decode cX7_store 5 = .ok (.aload_n 0, 1) := by decide +kernel
theorem dX7_store_6 : decode cX7_store 6 = .ok (.getfield 26, 3) := by decide +kernel
theorem dX7_store_9 : decode cX7_store 9 = .ok (.getfield 77, 3) := by decide +kernel
theorem dX7_store_12 : decode cX7_store 12 = .ok (.iload_n 1, 1) := by decide +kernel
theorem dX7_store_13 : decode cX7_store 13 = .ok (.iload_n 2, 1) := by decide +kernel
theorem dX7_store_14 : decode cX7_store 14 = .ok (.iastore, 1) := by decide +kernel
theorem dX7_store_15 : decode cX7_store 15 = .ok (.return_, 1) := by decide +kernel
theorem dX7_breakLong_0 : decode cX7_breakLong 0 = .ok (.aload_n 0, 1) := by decide +kernel
theorem dX7_breakLong_1 : decode cX7_breakLong 1 = .ok (.getfield 26, 3) := by decide +kernel
theorem dX7_breakLong_4 : decode cX7_breakLong 4 = .ok (.getfield 77, 3) := by decide +kernel
theorem dX7_breakLong_7 : decode cX7_breakLong 7 = .ok (.iload_n 1, 1) := by decide +kernel
theorem dX7_breakLong_8 : decode cX7_breakLong 8 = .ok (.iaload, 1) := by decide +kernel
theorem dX7_breakLong_9 : decode cX7_breakLong 9 = .ok (.bipush (-3), 2) := by decide +kernel
theorem dX7_breakLong_11 : decode cX7_breakLong 11 = .ok (.if_icmp .ne 20, 3) := by decide +kernel
theorem dX7_breakLong_14 : decode cX7_breakLong 14 = .ok (.iload_n 1, 1) := by decide +kernel
theorem dX7_breakLong_15 : decode cX7_breakLong 15 = .ok (.ifCond .le 16, 3) := by decide +kernel
theorem dX7_breakLong_18 : decode cX7_breakLong 18 = .ok (.aload_n 0, 1) := by decide +kernel
theorem dX7_breakLong_19 : decode cX7_breakLong 19 = .ok (.getfield 26, 3) := by decide +kernel
theorem dX7_breakLong_22 : decode cX7_breakLong 22 = .ok (.getfield 77, 3) := by decide +kernel
theorem dX7_breakLong_25 : decode cX7_breakLong 25 = .ok (.iload_n 1, 1) := by decide +kernel
theorem dX7_breakLong_26 : decode cX7_breakLong 26 = .ok (.iconst 1, 1) := by decide +kernel
theorem dX7_breakLong_27 : decode cX7_breakLong 27 = .ok (.isub, 1) := by decide +kernel
theorem dX7_breakLong_28 : decode cX7_breakLong 28 = .ok (.bipush (-2), 2) := by decide +kernel
theorem dX7_breakLong_30 : decode cX7_breakLong 30 = .ok (.iastore, 1) := by decide +kernel
theorem dX7_breakLong_31 : decode cX7_breakLong 31 = .ok (.aload_n 0, 1) := by decide +kernel
theorem dX7_breakLong_32 : decode cX7_breakLong 32 = .ok (.getfield 26, 3) := by decide +kernel
theorem dX7_breakLong_35 : decode cX7_breakLong 35 = .ok (.getfield 77, 3) := by decide +kernel
theorem dX7_breakLong_38 : decode cX7_breakLong 38 = .ok (.iload_n 1, 1) := by decide +kernel
theorem dX7_breakLong_39 : decode cX7_breakLong 39 = .ok (.iaload, 1) := by decide +kernel
theorem dX7_breakLong_40 : decode cX7_breakLong 40 = .ok (.bipush 8, 2) := by decide +kernel
theorem dX7_breakLong_42 : decode cX7_breakLong 42 = .ok (.if_icmp .ne 22, 3) := by decide +kernel
theorem dX7_breakLong_45 : decode cX7_breakLong 45 = .ok (.iload_n 1, 1) := by decide +kernel
theorem dX7_breakLong_46 : decode cX7_breakLong 46 = .ok (.bipush 11, 2) := by decide +kernel
theorem dX7_breakLong_48 : decode cX7_breakLong 48 = .ok (.if_icmp .ge 16, 3) := by decide +kernel
theorem dX7_breakLong_51 : decode cX7_breakLong 51 = .ok (.aload_n 0, 1) := by decide +kernel
theorem dX7_breakLong_52 : decode cX7_breakLong 52 = .ok (.getfield 26, 3) := by decide +kernel
theorem dX7_breakLong_55 : decode cX7_breakLong 55 = .ok (.getfield 77, 3) := by decide +kernel
theorem dX7_breakLong_58 : decode cX7_breakLong 58 = .ok (.iload_n 1, 1) := by decide +kernel
theorem dX7_breakLong_59 : decode cX7_breakLong 59 = .ok (.iconst 1, 1) := by decide +kernel
theorem dX7_breakLong_60 : decode cX7_breakLong 60 = .ok (.iadd, 1) := by decide +kernel
theorem dX7_breakLong_61 : decode cX7_breakLong 61 = .ok (.bipush (-2), 2) := by decide +kernel
theorem dX7_breakLong_63 : decode cX7_breakLong 63 = .ok (.iastore, 1) := by decide +kernel
theorem dX7_breakLong_64 : decode cX7_breakLong 64 = .ok (.return_, 1) := by decide +kernel
theorem dX7_require_0 : decode cX7_require 0 = .ok (.aload_n 0, 1) := by decide +kernel
theorem dX7_require_1 : decode cX7_require 1 = .ok (.getfield 30, 3) := by decide +kernel
theorem dX7_require_4 : decode cX7_require 4 = .ok (.ifCond .ne 12, 3) := by decide +kernel
theorem dX7_require_7 : decode cX7_require 7 = .ok (.iload_n 1, 1) := by decide +kernel
theorem dX7_require_8 : decode cX7_require 8 = .ok (.ifCond .ne 8, 3) := by decide +kernel
theorem dX7_require_11 : decode cX7_require 11 = .ok (.aload_n 0, 1) := by decide +kernel
theorem dX7_require_12 : decode cX7_require 12 = .ok (.iload_n 2, 1) := by decide +kernel
theorem dX7_require_13 : decode cX7_require 13 = .ok (.putfield 30, 3) := by decide +kernel
theorem dX7_require_16 : decode cX7_require 16 = .ok (.return_, 1) := by decide +kernel
theorem dX7_isAnyReference_0 : decode cX7_isAnyReference 0 = .ok (.iload_n 0, 1) := by decide +kernel
theorem dX7_isAnyReference_1 : decode cX7_isAnyReference 1 = .ok (.invokestatic 121, 3) := by decide +kernel
theorem dX7_isAnyReference_4 : decode cX7_isAnyReference 4 = .ok (.ifCond .ne 20, 3) := by decide +kernel
theorem dX7_isAnyReference_7 : decode cX7_isAnyReference 7 = .ok (.iload_n 0, 1) := by decide +kernel
theorem dX7_isAnyReference_8 : decode cX7_isAnyReference 8 = .ok (.iconst (-1), 1) := by decide +kernel
theorem dX7_isAnyReference_9 : decode cX7_isAnyReference 9 = .ok (.if_icmp .eq 15, 3) := by decide +kernel
theorem dX7_isAnyReference_12 : decode cX7_isAnyReference 12 = .ok (.iload_n 0, 1) := by decide +kernel
theorem dX7_isAnyReference_13 : decode cX7_isAnyReference 13 = .ok (.bipush (-4), 2) := by decide +kernel
theorem dX7_isAnyReference_15 : decode cX7_isAnyReference 15 = .ok (.if_icmp .eq 9, 3) := by decide +kernel
theorem dX7_isAnyReference_18 : decode cX7_isAnyReference 18 = .ok (.iload_n 0, 1) := by decide +kernel
theorem dX7_isAnyReference_19 : decode cX7_isAnyReference 19 = .ok (.bipush (-10), 2) := by decide +kernel
theorem dX7_isAnyReference_21 : decode cX7_isAnyReference 21 = .ok (.if_icmp .gt 7, 3) := by decide +kernel
theorem dX7_isAnyReference_24 : decode cX7_isAnyReference 24 = .ok (.iconst 1, 1) := by decide +kernel
theorem dX7_isAnyReference_25 : decode cX7_isAnyReference 25 = .ok (.goto 4, 3) := by decide +kernel
theorem dX7_isAnyReference_28 : decode cX7_isAnyReference 28 = .ok (.iconst 0, 1) := by decide +kernel
theorem dX7_isAnyReference_29 : decode cX7_isAnyReference 29 = .ok (.ireturn, 1) := by decide +kernel
theorem dX7_isArrayType_0 : decode cX7_isArrayType 0 = .ok (.iload_n 0, 1) := by decide +kernel
theorem dX7_isArrayType_1 : decode cX7_isArrayType 1 = .ok (.ifCond .lt 14, 3) := by decide +kernel
theorem dX7_isArrayType_4 : decode cX7_isArrayType 4 = .ok (.iload_n 0, 1) := by decide +kernel
theorem dX7_isArrayType_5 : decode cX7_isArrayType 5 = .ok (.bipush 8, 2) := by decide +kernel
theorem dX7_isArrayType_7 : decode cX7_isArrayType 7 = .ok (.irem, 1) := by decide +kernel
theorem dX7_isArrayType_8 : decode cX7_isArrayType 8 = .ok (.ifCond .le 7, 3) := by decide +kernel
theorem dX7_isArrayType_11 : decode cX7_isArrayType 11 = .ok (.iconst 1, 1) := by decide +kernel
theorem dX7_isArrayType_12 : decode cX7_isArrayType 12 = .ok (.goto 4, 3) := by decide +kernel
theorem dX7_isArrayType_15 : decode cX7_isArrayType 15 = .ok (.iconst 0, 1) := by decide +kernel
theorem dX7_isArrayType_16 : decode cX7_isArrayType 16 = .ok (.ireturn, 1) := by decide +kernel
theorem dX7_isWhole_0 : decode cX7_isWhole 0 = .ok (.iload_n 0, 1) := by decide +kernel
theorem dX7_isWhole_1 : decode cX7_isWhole 1 = .ok (.bipush 8, 2) := by decide +kernel
theorem dX7_isWhole_3 : decode cX7_isWhole 3 = .ok (.if_icmp .eq 13, 3) := by decide +kernel
theorem dX7_isWhole_6 : decode cX7_isWhole 6 = .ok (.iload_n 0, 1) := by decide +kernel
theorem dX7_isWhole_7 : decode cX7_isWhole 7 = .ok (.bipush (-3), 2) := by decide +kernel
theorem dX7_isWhole_9 : decode cX7_isWhole 9 = .ok (.if_icmp .eq 7, 3) := by decide +kernel
theorem dX7_isWhole_12 : decode cX7_isWhole 12 = .ok (.iconst 1, 1) := by decide +kernel
theorem dX7_isWhole_13 : decode cX7_isWhole 13 = .ok (.goto 4, 3) := by decide +kernel
theorem dX7_isWhole_16 : decode cX7_isWhole 16 = .ok (.iconst 0, 1) := by decide +kernel
theorem dX7_isWhole_17 : decode cX7_isWhole 17 = .ok (.ireturn, 1) := by decide +kernel
theorem dX8_init_0 : decode cX8_init 0 = .ok (.aload_n 0, 1) := by decide +kernel
theorem dX8_init_1 : decode cX8_init 1 = .ok (.invokespecial 3, 3) := by decide +kernel
theorem dX8_init_4 : decode cX8_init 4 = .ok (.aload_n 0, 1) := by decide +kernel
theorem dX8_init_5 : decode cX8_init 5 = .ok (.bipush 30, 2) := by decide +kernel
theorem dX8_init_7 : decode cX8_init 7 = .ok (.newarray .int, 2) := by decide +kernel
theorem dX8_init_9 : decode cX8_init 9 = .ok (.putfield 9, 3) := by decide +kernel
theorem dX8_init_12 : decode cX8_init 12 = .ok (.aload_n 0, 1) := by decide +kernel
theorem dX8_init_13 : decode cX8_init 13 = .ok (.bipush 30, 2) := by decide +kernel
theorem dX8_init_15 : decode cX8_init 15 = .ok (.newarray .int, 2) := by decide +kernel
theorem dX8_init_17 : decode cX8_init 17 = .ok (.putfield 15, 3) := by decide +kernel
theorem dX8_init_20 : decode cX8_init 20 = .ok (.aload_n 0, 1) := by decide +kernel
theorem dX8_init_21 : decode cX8_init 21 = .ok (.bipush 30, 2) := by decide +kernel
theorem dX8_init_23 : decode cX8_init 23 = .ok (.newarray .int, 2) := by decide +kernel
theorem dX8_init_25 : decode cX8_init 25 = .ok (.putfield 18, 3) := by decide +kernel
theorem dX8_init_28 : decode cX8_init 28 = .ok (.aload_n 0, 1) := by decide +kernel
theorem dX8_init_29 : decode cX8_init 29 = .ok (.bipush 30, 2) := by decide +kernel
theorem dX8_init_31 : decode cX8_init 31 = .ok (.newarray .int, 2) := by decide +kernel
theorem dX8_init_33 : decode cX8_init 33 = .ok (.putfield 21, 3) := by decide +kernel
theorem dX8_init_36 : decode cX8_init 36 = .ok (.aload_n 0, 1) := by decide +kernel
theorem dX8_init_37 : decode cX8_init 37 = .ok (.bipush 30, 2) := by decide +kernel
theorem dX8_init_39 : decode cX8_init 39 = .ok (.newarray .int, 2) := by decide +kernel
theorem dX8_init_41 : decode cX8_init 41 = .ok (.putfield 24, 3) := by decide +kernel
theorem dX8_init_44 : decode cX8_init 44 = .ok (.aload_n 0, 1) := by decide +kernel
theorem dX8_init_45 : decode cX8_init 45 = .ok (.bipush 30, 2) := by decide +kernel
theorem dX8_init_47 : decode cX8_init 47 = .ok (.newarray .int, 2) := by decide +kernel
theorem dX8_init_49 : decode cX8_init 49 = .ok (.putfield 27, 3) := by decide +kernel
theorem dX8_init_52 : decode cX8_init 52 = .ok (.aload_n 0, 1) := by decide +kernel
theorem dX8_init_53 : decode cX8_init 53 = .ok (.bipush 30, 2) := by decide +kernel
theorem dX8_init_55 : decode cX8_init 55 = .ok (.newarray .int, 2) := by decide +kernel
theorem dX8_init_57 : decode cX8_init 57 = .ok (.putfield 30, 3) := by decide +kernel
theorem dX8_init_60 : decode cX8_init 60 = .ok (.aload_n 0, 1) := by decide +kernel
theorem dX8_init_61 : decode cX8_init 61 = .ok (.sipush 180, 3) := by decide +kernel
theorem dX8_init_64 : decode cX8_init 64 = .ok (.newarray .int, 2) := by decide +kernel
theorem dX8_init_66 : decode cX8_init 66 = .ok (.putfield 33, 3) := by decide +kernel
theorem dX8_init_69 : decode cX8_init 69 = .ok (.aload_n 0, 1) := by decide +kernel
theorem dX8_init_70 : decode cX8_init 70 = .ok (.bipush 6, 2) := by decide +kernel
theorem dX8_init_72 : decode cX8_init 72 = .ok (.newarray .int, 2) := by decide +kernel
theorem dX8_init_74 : decode cX8_init 74 = .ok (.putfield 36, 3) := by decide +kernel
theorem dX8_init_77 : decode cX8_init 77 = .ok (.return_, 1) := by decide +kernel
theorem dX8_isField_0 : decode cX8_isField 0 = .ok (.iload_n 1, 1) := by decide +kernel
theorem dX8_isField_1 : decode cX8_isField 1 = .ok (.ifCond .lt 15, 3) := by decide +kernel
theorem dX8_isField_4 : decode cX8_isField 4 = .ok (.iload_n 1, 1) := by decide +kernel
theorem dX8_isField_5 : decode cX8_isField 5 = .ok (.aload_n 0, 1) := by decide +kernel
theorem dX8_isField_6 : decode cX8_isField 6 = .ok (.getfield 39, 3) := by decide +kernel
theorem dX8_isField_9 : decode cX8_isField 9 = .ok (.if_icmp .ge 7, 3) := by decide +kernel
theorem dX8_isField_12 : decode cX8_isField 12 = .ok (.iconst 1, 1) := by decide +kernel
theorem dX8_isField_13 : decode cX8_isField 13 = .ok (.goto 4, 3) := by decide +kernel
theorem dX8_isField_16 : decode cX8_isField 16 = .ok (.iconst 0, 1) := by decide +kernel
theorem dX8_isField_17 : decode cX8_isField 17 = .ok (.ireturn, 1) := by decide +kernel
theorem dX8_isMethod_0 : decode cX8_isMethod 0 = .ok (.iload_n 1, 1) := by decide +kernel
theorem dX8_isMethod_1 : decode cX8_isMethod 1 = .ok (.ifCond .lt 15, 3) := by decide +kernel
theorem dX8_isMethod_4 : decode cX8_isMethod 4 = .ok (.iload_n 1, 1) := by decide +kernel
theorem dX8_isMethod_5 : decode cX8_isMethod 5 = .ok (.aload_n 0, 1) := by decide +kernel
theorem dX8_isMethod_6 : decode cX8_isMethod 6 = .ok (.getfield 43, 3) := by decide +kernel
theorem dX8_isMethod_9 : decode cX8_isMethod 9 = .ok (.if_icmp .ge 7, 3) := by decide +kernel
theorem dX8_isMethod_12 : decode cX8_isMethod 12 = .ok (.iconst 1, 1) := by decide +kernel
theorem dX8_isMethod_13 : decode cX8_isMethod 13 = .ok (.goto 4, 3) := by decide +kernel
theorem dX8_isMethod_16 : decode cX8_isMethod 16 = .ok (.iconst 0, 1) := by decide +kernel
theorem dX8_isMethod_17 : decode cX8_isMethod 17 = .ok (.ireturn, 1) := by decide +kernel
theorem dX8_isMethodOfKind_0 : decode cX8_isMethodOfKind 0 = .ok (.aload_n 0, 1) := by decide +kernel
theorem dX8_isMethodOfKind_1 : decode cX8_isMethodOfKind 1 = .ok (.iload_n 1, 1) := by decide +kernel
theorem dX8_isMethodOfKind_2 : decode cX8_isMethodOfKind 2 = .ok (.invokevirtual 46, 3) := by decide +kernel
theorem dX8_isMethodOfKind_5 : decode cX8_isMethodOfKind 5 = .ok (.ifCond .eq 17, 3) := by decide +kernel
theorem dX8_isMethodOfKind_8 : decode cX8_isMethodOfKind 8 = .ok (.aload_n 0, 1) := by decide +kernel
theorem dX8_isMethodOfKind_9 : decode cX8_isMethodOfKind 9 = .ok (.getfield 21, 3) := by decide +kernel
theorem dX8_isMethodOfKind_12 : decode cX8_isMethodOfKind 12 = .ok (.iload_n 1, 1) := by decide +kernel
theorem dX8_isMethodOfKind_13 : decode cX8_isMethodOfKind 13 = .ok (.iaload, 1) := by decide +kernel
theorem dX8_isMethodOfKind_14 : decode cX8_isMethodOfKind 14 = .ok (.iload_n 2, 1) := by decide +kernel
theorem dX8_isMethodOfKind_15 : decode cX8_isMethodOfKind 15 = .ok (.if_icmp .ne 7, 3) := by decide +kernel
theorem dX8_isMethodOfKind_18 : decode cX8_isMethodOfKind 18 = .ok (.iconst 1, 1) := by decide +kernel
theorem dX8_isMethodOfKind_19 : decode cX8_isMethodOfKind 19 = .ok (.goto 4, 3) := by decide +kernel
theorem dX8_isMethodOfKind_22 : decode cX8_isMethodOfKind 22 = .ok (.iconst 0, 1) := by decide +kernel
theorem dX8_isMethodOfKind_23 : decode cX8_isMethodOfKind 23 = .ok (.ireturn, 1) := by decide +kernel
theorem dX8_addParameter_0 : decode cX8_addParameter 0 = .ok (.aload_n 0, 1) := by decide +kernel
theorem dX8_addParameter_1 : decode cX8_addParameter 1 = .ok (.getfield 36, 3) := by decide +kernel
theorem dX8_addParameter_4 : decode cX8_addParameter 4 = .ok (.aload_n 0, 1) := by decide +kernel
theorem dX8_addParameter_5 : decode cX8_addParameter 5 = .ok (.getfield 50, 3) := by decide +kernel
theorem dX8_addParameter_8 : decode cX8_addParameter 8 = .ok (.iload_n 1, 1) := by decide +kernel
theorem dX8_addParameter_9 : decode cX8_addParameter 9 = .ok (.iastore, 1) := by decide +kernel
theorem dX8_addParameter_10 : decode cX8_addParameter 10 = .ok (.aload_n 0, 1) := by decide +kernel
theorem dX8_addParameter_11 : decode cX8_addParameter 11 = .ok (.dup, 1) := by decide +kernel
theorem dX8_addParameter_12 : decode cX8_addParameter 12 = .ok (.getfield 50, 3) := by decide +kernel
theorem dX8_addParameter_15 : decode cX8_addParameter 15 = .ok (.iconst 1, 1) := by decide +kernel
theorem dX8_addParameter_16 : decode cX8_addParameter 16 = .ok (.iadd, 1) := by decide +kernel
theorem dX8_addParameter_17 : decode cX8_addParameter 17 = .ok (.putfield 50, 3) := by decide +kernel
theorem dX8_addParameter_20 : decode cX8_addParameter 20 = .ok (.aload_n 0, 1) := by decide +kernel
theorem dX8_addParameter_21 : decode cX8_addParameter 21 = .ok (.dup, 1) := by decide +kernel
theorem dX8_addParameter_22 : decode cX8_addParameter 22 = .ok (.getfield 53, 3) := by decide +kernel
theorem dX8_addParameter_25 : decode cX8_addParameter 25 = .ok (.iload_n 1, 1) := by decide +kernel
theorem dX8_addParameter_26 : decode cX8_addParameter 26 = .ok (.invokestatic 56, 3) := by decide +kernel
theorem dX8_addParameter_29 : decode cX8_addParameter 29 = .ok (.iadd, 1) := by decide +kernel
theorem dX8_addParameter_30 : decode cX8_addParameter 30 = .ok (.putfield 53, 3) := by decide +kernel
theorem dX8_addParameter_33 : decode cX8_addParameter 33 = .ok (.aload_n 0, 1) := by decide +kernel
theorem dX8_addParameter_34 : decode cX8_addParameter 34 = .ok (.getfield 53, 3) := by decide +kernel
theorem dX8_addParameter_37 : decode cX8_addParameter 37 = .ok (.ireturn, 1) := by decide +kernel
theorem dX8_dropParameters_0 : decode cX8_dropParameters 0 = .ok (.aload_n 0, 1) := by decide +kernel
theorem dX8_dropParameters_1 : decode cX8_dropParameters 1 = .ok (.iconst 0, 1) := by decide +kernel
theorem dX8_dropParameters_2 : decode cX8_dropParameters 2 = .ok (.putfield 50, 3) := by decide +kernel
theorem dX8_dropParameters_5 : decode cX8_dropParameters 5 = .ok (.aload_n 0, 1) := by decide +kernel
theorem dX8_dropParameters_6 : decode cX8_dropParameters 6 = .ok (.iconst 0, 1) := by decide +kernel
theorem dX8_dropParameters_7 : decode cX8_dropParameters 7 = .ok (.putfield 53, 3) := by decide +kernel
theorem dX8_dropParameters_10 : decode cX8_dropParameters 10 = .ok (.return_, 1) := by decide +kernel
theorem dX8_addMethod_0 : decode cX8_addMethod 0 = .ok (.aload_n 0, 1) := by decide +kernel
theorem dX8_addMethod_1 : decode cX8_addMethod 1 = .ok (.getfield 18, 3) := by decide +kernel
theorem dX8_addMethod_4 : decode cX8_addMethod 4 = .ok (.aload_n 0, 1) := by decide +kernel
theorem dX8_addMethod_5 : decode cX8_addMethod 5 = .ok (.getfield 43, 3) := by decide +kernel
theorem dX8_addMethod_8 : decode cX8_addMethod 8 = .ok (.iload_n 1, 1) := by decide +kernel
theorem dX8_addMethod_9 : decode cX8_addMethod 9 = .ok (.iastore, 1) := by decide +kernel
theorem dX8_addMethod_10 : decode cX8_addMethod 10 = .ok (.aload_n 0, 1) := by decide +kernel
theorem dX8_addMethod_11 : decode cX8_addMethod 11 = .ok (.getfield 21, 3) := by decide +kernel
theorem dX8_addMethod_14 : decode cX8_addMethod 14 = .ok (.aload_n 0, 1) := by decide +kernel
theorem dX8_addMethod_15 : decode cX8_addMethod 15 = .ok (.getfield 43, 3) := by decide +kernel
theorem dX8_addMethod_18 : decode cX8_addMethod 18 = .ok (.iload_n 2, 1) := by decide +kernel
theorem dX8_addMethod_19 : decode cX8_addMethod 19 = .ok (.iastore, 1) := by decide +kernel
theorem dX8_addMethod_20 : decode cX8_addMethod 20 = .ok (.aload_n 0, 1) := by decide +kernel
theorem dX8_addMethod_21 : decode cX8_addMethod 21 = .ok (.getfield 24, 3) := by decide +kernel
theorem dX8_addMethod_24 : decode cX8_addMethod 24 = .ok (.aload_n 0, 1) := by decide +kernel
theorem dX8_addMethod_25 : decode cX8_addMethod 25 = .ok (.getfield 43, 3) := by decide +kernel
theorem dX8_addMethod_28 : decode cX8_addMethod 28 = .ok (.iload_n 3, 1) := by decide +kernel
theorem dX8_addMethod_29 : decode cX8_addMethod 29 = .ok (.iastore, 1) := by decide +kernel
theorem dX8_addMethod_30 : decode cX8_addMethod 30 = .ok (.aload_n 0, 1) := by decide +kernel
theorem dX8_addMethod_31 : decode cX8_addMethod 31 = .ok (.getfield 27, 3) := by decide +kernel
theorem dX8_addMethod_34 : decode cX8_addMethod 34 = .ok (.aload_n 0, 1) := by decide +kernel
theorem dX8_addMethod_35 : decode cX8_addMethod 35 = .ok (.getfield 43, 3) := by decide +kernel
theorem dX8_addMethod_38 : decode cX8_addMethod 38 = .ok (.aload_n 0, 1) := by decide +kernel
theorem dX8_addMethod_39 : decode cX8_addMethod 39 = .ok (.getfield 50, 3) := by decide +kernel
theorem dX8_addMethod_42 : decode cX8_addMethod 42 = .ok (.iastore, 1) := by decide +kernel
theorem dX8_addMethod_43 : decode cX8_addMethod 43 = .ok (.aload_n 0, 1) := by decide +kernel
theorem dX8_addMethod_44 : decode cX8_addMethod 44 = .ok (.getfield 30, 3) := by decide +kernel
theorem dX8_addMethod_47 : decode cX8_addMethod 47 = .ok (.aload_n 0, 1) := by decide +kernel
theorem dX8_addMethod_48 : decode cX8_addMethod 48 = .ok (.getfield 43, 3) := by decide +kernel
theorem dX8_addMethod_51 : decode cX8_addMethod 51 = .ok (.aload_n 0, 1) := by decide +kernel
theorem dX8_addMethod_52 : decode cX8_addMethod 52 = .ok (.getfield 53, 3) := by decide +kernel
theorem dX8_addMethod_55 : decode cX8_addMethod 55 = .ok (.iastore, 1) := by decide +kernel
theorem dX8_addMethod_56 : decode cX8_addMethod 56 = .ok (.aload_n 0, 1) := by decide +kernel
theorem dX8_addMethod_57 : decode cX8_addMethod 57 = .ok (.getfield 36, 3) := by decide +kernel
theorem dX8_addMethod_60 : decode cX8_addMethod 60 = .ok (.iconst 0, 1) := by decide +kernel
theorem dX8_addMethod_61 : decode cX8_addMethod 61 = .ok (.aload_n 0, 1) := by decide +kernel
theorem dX8_addMethod_62 : decode cX8_addMethod 62 = .ok (.getfield 33, 3) := by decide +kernel
theorem dX8_addMethod_65 : decode cX8_addMethod 65 = .ok (.aload_n 0, 1) := by decide +kernel
theorem dX8_addMethod_66 : decode cX8_addMethod 66 = .ok (.getfield 43, 3) := by decide +kernel
theorem dX8_addMethod_69 : decode cX8_addMethod 69 = .ok (.bipush 6, 2) := by decide +kernel
theorem dX8_addMethod_71 : decode cX8_addMethod 71 = .ok (.imul, 1) := by decide +kernel
theorem dX8_addMethod_72 : decode cX8_addMethod 72 = .ok (.aload_n 0, 1) := by decide +kernel
theorem dX8_addMethod_73 : decode cX8_addMethod 73 = .ok (.getfield 50, 3) := by decide +kernel
theorem dX8_addMethod_76 : decode cX8_addMethod 76 = .ok (.invokestatic 60, 3) := by decide +kernel
theorem dX8_addMethod_79 : decode cX8_addMethod 79 = .ok (.aload_n 0, 1) := by decide +kernel
theorem dX8_addMethod_80 : decode cX8_addMethod 80 = .ok (.invokevirtual 66, 3) := by decide +kernel
theorem dX8_addMethod_83 : decode cX8_addMethod 83 = .ok (.aload_n 0, 1) := by decide +kernel
theorem dX8_addMethod_84 : decode cX8_addMethod 84 = .ok (.dup, 1) := by decide +kernel
theorem dX8_addMethod_85 : decode cX8_addMethod 85 = .ok (.getfield 43, 3) := by decide +kernel
theorem dX8_addMethod_88 : decode cX8_addMethod 88 = .ok (.iconst 1, 1) := by decide +kernel
theorem dX8_addMethod_89 : decode cX8_addMethod 89 = .ok (.iadd, 1) := by decide +kernel
theorem dX8_addMethod_90 : decode cX8_addMethod 90 = .ok (.putfield 43, 3) := by decide +kernel
theorem dX8_addMethod_93 : decode cX8_addMethod 93 = .ok (.aload_n 0, 1) := by decide +kernel
theorem dX8_addMethod_94 : decode cX8_addMethod 94 = .ok (.getfield 43, 3) := by decide +kernel
theorem dX8_addMethod_97 : decode cX8_addMethod 97 = .ok (.iconst 1, 1) := by decide +kernel
theorem dX8_addMethod_98 : decode cX8_addMethod 98 = .ok (.isub, 1) := by decide +kernel
theorem dX8_addMethod_99 : decode cX8_addMethod 99 = .ok (.ireturn, 1) := by decide +kernel
theorem dX8_parameterType_0 : decode cX8_parameterType 0 = .ok (.aload_n 0, 1) := by decide +kernel
theorem dX8_parameterType_1 : decode cX8_parameterType 1 = .ok (.getfield 33, 3) := by decide +kernel
theorem dX8_parameterType_4 : decode cX8_parameterType 4 = .ok (.iload_n 1, 1) := by decide +kernel
theorem dX8_parameterType_5 : decode cX8_parameterType 5 = .ok (.bipush 6, 2) := by decide +kernel
theorem dX8_parameterType_7 : decode cX8_parameterType 7 = .ok (.imul, 1) := by decide +kernel
theorem dX8_parameterType_8 : decode cX8_parameterType 8 = .ok (.iload_n 2, 1) := by decide +kernel
theorem dX8_parameterType_9 : decode cX8_parameterType 9 = .ok (.iadd, 1) := by decide +kernel
theorem dX8_parameterType_10 : decode cX8_parameterType 10 = .ok (.iaload, 1) := by decide +kernel
theorem dX8_parameterType_11 : decode cX8_parameterType 11 = .ok (.ireturn, 1) := by decide +kernel
theorem dX8_slotsNeeded_0 : decode cX8_slotsNeeded 0 = .ok (.aload_n 0, 1) := by decide +kernel
theorem dX8_slotsNeeded_1 : decode cX8_slotsNeeded 1 = .ok (.getfield 30, 3) := by decide +kernel
theorem dX8_slotsNeeded_4 : decode cX8_slotsNeeded 4 = .ok (.iload_n 1, 1) := by decide +kernel
theorem dX8_slotsNeeded_5 : decode cX8_slotsNeeded 5 = .ok (.iaload, 1) := by decide +kernel
theorem dX8_slotsNeeded_6 : decode cX8_slotsNeeded 6 = .ok (.aload_n 0, 1) := by decide +kernel
theorem dX8_slotsNeeded_7 : decode cX8_slotsNeeded 7 = .ok (.getfield 21, 3) := by decide +kernel
theorem dX8_slotsNeeded_10 : decode cX8_slotsNeeded 10 = .ok (.iload_n 1, 1) := by decide +kernel
theorem dX8_slotsNeeded_11 : decode cX8_slotsNeeded 11 = .ok (.iaload, 1) := by decide +kernel
theorem dX8_slotsNeeded_12 : decode cX8_slotsNeeded 12 = .ok (.iconst 1, 1) := by decide +kernel
theorem dX8_slotsNeeded_13 : decode cX8_slotsNeeded 13 = .ok (.if_icmp .ne 7, 3) := by decide +kernel
theorem dX8_slotsNeeded_16 : decode cX8_slotsNeeded 16 = .ok (.iconst 0, 1) := by decide +kernel
theorem dX8_slotsNeeded_17 : decode cX8_slotsNeeded 17 = .ok (.goto 4, 3) := by decide +kernel
theorem dX8_slotsNeeded_20 : decode cX8_slotsNeeded 20 = .ok (.iconst 1, 1) := by decide +kernel
theorem dX8_slotsNeeded_21 : decode cX8_slotsNeeded 21 = .ok (.iadd, 1) := by decide +kernel
theorem dX8_slotsNeeded_22 : decode cX8_slotsNeeded 22 = .ok (.ireturn, 1) := by decide +kernel
theorem dX9_jumps_0 : decode cX9_jumps 0 = .ok (.iload_n 0, 1) := by decide +kernel
theorem dX9_jumps_1 : decode cX9_jumps 1 = .ok (.bipush 22, 2) := by decide +kernel
theorem dX9_jumps_3 : decode cX9_jumps 3 = .ok (.if_icmp .lt 13, 3) := by decide +kernel
theorem dX9_jumps_6 : decode cX9_jumps 6 = .ok (.iload_n 0, 1) := by decide +kernel
theorem dX9_jumps_7 : decode cX9_jumps 7 = .ok (.bipush 26, 2) := by decide +kernel
theorem dX9_jumps_9 : decode cX9_jumps 9 = .ok (.if_icmp .gt 7, 3) := by decide +kernel
theorem dX9_jumps_12 : decode cX9_jumps 12 = .ok (.iconst 1, 1) := by decide +kernel
theorem dX9_jumps_13 : decode cX9_jumps 13 = .ok (.goto 4, 3) := by decide +kernel
theorem dX9_jumps_16 : decode cX9_jumps 16 = .ok (.iconst 0, 1) := by decide +kernel
theorem dX9_jumps_17 : decode cX9_jumps 17 = .ok (.ireturn, 1) := by decide +kernel
theorem dX9_fallsThrough_0 : decode cX9_fallsThrough 0 = .ok (.iload_n 0, 1) := by decide +kernel
theorem dX9_fallsThrough_1 : decode cX9_fallsThrough 1 = .ok (.bipush 22, 2) := by decide +kernel
theorem dX9_fallsThrough_3 : decode cX9_fallsThrough 3 = .ok (.if_icmp .eq 19, 3) := by decide +kernel
theorem dX9_fallsThrough_6 : decode cX9_fallsThrough 6 = .ok (.iload_n 0, 1) := by decide +kernel
theorem dX9_fallsThrough_7 : decode cX9_fallsThrough 7 = .ok (.bipush 27, 2) := by decide +kernel
theorem dX9_fallsThrough_9 : decode cX9_fallsThrough 9 = .ok (.if_icmp .lt 9, 3) := by decide +kernel
theorem dX9_fallsThrough_12 : decode cX9_fallsThrough 12 = .ok (.iload_n 0, 1) := by decide +kernel
theorem dX9_fallsThrough_13 : decode cX9_fallsThrough 13 = .ok (.bipush 31, 2) := by decide +kernel
theorem dX9_fallsThrough_15 : decode cX9_fallsThrough 15 = .ok (.if_icmp .le 7, 3) := by decide +kernel
theorem dX9_fallsThrough_18 : decode cX9_fallsThrough 18 = .ok (.iconst 1, 1) := by decide +kernel
theorem dX9_fallsThrough_19 : decode cX9_fallsThrough 19 = .ok (.goto 4, 3) := by decide +kernel
theorem dX9_fallsThrough_22 : decode cX9_fallsThrough 22 = .ok (.iconst 0, 1) := by decide +kernel
theorem dX9_fallsThrough_23 : decode cX9_fallsThrough 23 = .ok (.ireturn, 1) := by decide +kernel
theorem dX10_init_0 : decode cX10_init 0 = .ok (.aload_n 0, 1) := by decide +kernel
theorem dX10_init_1 : decode cX10_init 1 = .ok (.invokespecial 3, 3) := by decide +kernel
theorem dX10_init_4 : decode cX10_init 4 = .ok (.aload_n 0, 1) := by decide +kernel
theorem dX10_init_5 : decode cX10_init 5 = .ok (.bipush 20, 2) := by decide +kernel
theorem dX10_init_7 : decode cX10_init 7 = .ok (.newarray .int, 2) := by decide +kernel
theorem dX10_init_9 : decode cX10_init 9 = .ok (.putfield 9, 3) := by decide +kernel
theorem dX10_init_12 : decode cX10_init 12 = .ok (.aload_n 0, 1) := by decide +kernel
theorem dX10_init_13 : decode cX10_init 13 = .ok (.bipush 20, 2) := by decide +kernel
theorem dX10_init_15 : decode cX10_init 15 = .ok (.newarray .boolean, 2) := by decide +kernel
theorem dX10_init_17 : decode cX10_init 17 = .ok (.putfield 15, 3) := by decide +kernel
theorem dX10_init_20 : decode cX10_init 20 = .ok (.aload_n 0, 1) := by decide +kernel
theorem dX10_init_21 : decode cX10_init 21 = .ok (.iconst 3, 1) := by decide +kernel
theorem dX10_init_22 : decode cX10_init 22 = .ok (.putfield 19, 3) := by decide +kernel
theorem dX10_init_25 : decode cX10_init 25 = .ok (.iconst 0, 1) := by decide +kernel
theorem dX10_init_26 : decode cX10_init 26 = .ok (.istore_n 1, 1) := by decide +kernel
theorem dX10_init_27 : decode cX10_init 27 = .ok (.iload_n 1, 1) := by decide +kernel
theorem dX10_init_28 : decode cX10_init 28 = .ok (.aload_n 0, 1) := by decide +kernel
theorem dX10_init_29 : decode cX10_init 29 = .ok (.getfield 19, 3) := by decide +kernel
theorem dX10_init_32 : decode cX10_init 32 = .ok (.if_icmp .ge 16, 3) := by decide +kernel
theorem dX10_init_35 : decode cX10_init 35 = .ok (.aload_n 0, 1) := by decide +kernel
theorem dX10_init_36 : decode cX10_init 36 = .ok (.getfield 9, 3) := by decide +kernel
theorem dX10_init_39 : decode cX10_init 39 = .ok (.iload_n 1, 1) := by decide +kernel
theorem dX10_init_40 : decode cX10_init 40 = .ok (.iconst (-1), 1) := by decide +kernel
theorem dX10_init_41 : decode cX10_init 41 = .ok (.iastore, 1) := by decide +kernel
theorem dX10_init_42 : decode cX10_init 42 = .ok (.iinc 1 1, 3) := by decide +kernel
theorem dX10_init_45 : decode cX10_init 45 = .ok (.goto (-18), 3) := by decide +kernel
theorem dX10_init_48 : decode cX10_init 48 = .ok (.return_, 1) := by decide +kernel
theorem dX10_add_0 : decode cX10_add 0 = .ok (.aload_n 0, 1) := by decide +kernel
theorem dX10_add_1 : decode cX10_add 1 = .ok (.getfield 9, 3) := by decide +kernel
theorem dX10_add_4 : decode cX10_add 4 = .ok (.aload_n 0, 1) := by decide +kernel
theorem dX10_add_5 : decode cX10_add 5 = .ok (.getfield 19, 3) := by decide +kernel
theorem dX10_add_8 : decode cX10_add 8 = .ok (.iload_n 1, 1) := by decide +kernel
theorem dX10_add_9 : decode cX10_add 9 = .ok (.iastore, 1) := by decide +kernel
theorem dX10_add_10 : decode cX10_add 10 = .ok (.aload_n 0, 1) := by decide +kernel
theorem dX10_add_11 : decode cX10_add 11 = .ok (.getfield 15, 3) := by decide +kernel
theorem dX10_add_14 : decode cX10_add 14 = .ok (.aload_n 0, 1) := by decide +kernel
theorem dX10_add_15 : decode cX10_add 15 = .ok (.getfield 19, 3) := by decide +kernel
theorem dX10_add_18 : decode cX10_add 18 = .ok (.iload_n 2, 1) := by decide +kernel
theorem dX10_add_19 : decode cX10_add 19 = .ok (.bastore, 1) := by decide +kernel
theorem dX10_add_20 : decode cX10_add 20 = .ok (.aload_n 0, 1) := by decide +kernel
theorem dX10_add_21 : decode cX10_add 21 = .ok (.dup, 1) := by decide +kernel
theorem dX10_add_22 : decode cX10_add 22 = .ok (.getfield 19, 3) := by decide +kernel
theorem dX10_add_25 : decode cX10_add 25 = .ok (.iconst 1, 1) := by decide +kernel
theorem dX10_add_26 : decode cX10_add 26 = .ok (.iadd, 1) := by decide +kernel
theorem dX10_add_27 : decode cX10_add 27 = .ok (.putfield 19, 3) := by decide +kernel
theorem dX10_add_30 : decode cX10_add 30 = .ok (.aload_n 0, 1) := by decide +kernel
theorem dX10_add_31 : decode cX10_add 31 = .ok (.getfield 19, 3) := by decide +kernel
theorem dX10_add_34 : decode cX10_add 34 = .ok (.iconst 1, 1) := by decide +kernel
theorem dX10_add_35 : decode cX10_add 35 = .ok (.isub, 1) := by decide +kernel
theorem dX10_add_36 : decode cX10_add 36 = .ok (.ireturn, 1) := by decide +kernel
theorem dX10_isClass_0 : decode cX10_isClass 0 = .ok (.iload_n 1, 1) := by decide +kernel
theorem dX10_isClass_1 : decode cX10_isClass 1 = .ok (.iconst 2, 1) := by decide +kernel
theorem dX10_isClass_2 : decode cX10_isClass 2 = .ok (.if_icmp .lt 24, 3) := by decide +kernel
theorem dX10_isClass_5 : decode cX10_isClass 5 = .ok (.iload_n 1, 1) := by decide +kernel
theorem dX10_isClass_6 : decode cX10_isClass 6 = .ok (.aload_n 0, 1) := by decide +kernel
theorem dX10_isClass_7 : decode cX10_isClass 7 = .ok (.getfield 19, 3) := by decide +kernel
theorem dX10_isClass_10 : decode cX10_isClass 10 = .ok (.if_icmp .ge 16, 3) := by decide +kernel
theorem dX10_isClass_13 : decode cX10_isClass 13 = .ok (.aload_n 0, 1) := by decide +kernel
theorem dX10_isClass_14 : decode cX10_isClass 14 = .ok (.getfield 15, 3) := by decide +kernel
theorem dX10_isClass_17 : decode cX10_isClass 17 = .ok (.iload_n 1, 1) := by decide +kernel
theorem dX10_isClass_18 : decode cX10_isClass 18 = .ok (.baload, 1) := by decide +kernel
theorem dX10_isClass_19 : decode cX10_isClass 19 = .ok (.ifCond .ne 7, 3) := by decide +kernel
theorem dX10_isClass_22 : decode cX10_isClass 22 = .ok (.iconst 1, 1) := by decide +kernel
theorem dX10_isClass_23 : decode cX10_isClass 23 = .ok (.goto 4, 3) := by decide +kernel
theorem dX10_isClass_26 : decode cX10_isClass 26 = .ok (.iconst 0, 1) := by decide +kernel
theorem dX10_isClass_27 : decode cX10_isClass 27 = .ok (.ireturn, 1) := by decide +kernel
theorem dX10_isInterface_0 : decode cX10_isInterface 0 = .ok (.iload_n 1, 1) := by decide +kernel
theorem dX10_isInterface_1 : decode cX10_isInterface 1 = .ok (.iconst 2, 1) := by decide +kernel
theorem dX10_isInterface_2 : decode cX10_isInterface 2 = .ok (.if_icmp .lt 24, 3) := by decide +kernel
theorem dX10_isInterface_5 : decode cX10_isInterface 5 = .ok (.iload_n 1, 1) := by decide +kernel
theorem dX10_isInterface_6 : decode cX10_isInterface 6 = .ok (.aload_n 0, 1) := by decide +kernel
theorem dX10_isInterface_7 : decode cX10_isInterface 7 = .ok (.getfield 19, 3) := by decide +kernel
theorem dX10_isInterface_10 : decode cX10_isInterface 10 = .ok (.if_icmp .ge 16, 3) := by decide +kernel
theorem dX10_isInterface_13 : decode cX10_isInterface 13 = .ok (.aload_n 0, 1) := by decide +kernel
theorem dX10_isInterface_14 : decode cX10_isInterface 14 = .ok (.getfield 15, 3) := by decide +kernel
theorem dX10_isInterface_17 : decode cX10_isInterface 17 = .ok (.iload_n 1, 1) := by decide +kernel
theorem dX10_isInterface_18 : decode cX10_isInterface 18 = .ok (.baload, 1) := by decide +kernel
theorem dX10_isInterface_19 : decode cX10_isInterface 19 = .ok (.ifCond .eq 7, 3) := by decide +kernel
theorem dX10_isInterface_22 : decode cX10_isInterface 22 = .ok (.iconst 1, 1) := by decide +kernel
theorem dX10_isInterface_23 : decode cX10_isInterface 23 = .ok (.goto 4, 3) := by decide +kernel
theorem dX10_isInterface_26 : decode cX10_isInterface 26 = .ok (.iconst 0, 1) := by decide +kernel
theorem dX10_isInterface_27 : decode cX10_isInterface 27 = .ok (.ireturn, 1) := by decide +kernel
theorem dX10_isType_0 : decode cX10_isType 0 = .ok (.iload_n 1, 1) := by decide +kernel
theorem dX10_isType_1 : decode cX10_isType 1 = .ok (.ifCond .lt 26, 3) := by decide +kernel
theorem dX10_isType_4 : decode cX10_isType 4 = .ok (.iload_n 1, 1) := by decide +kernel
theorem dX10_isType_5 : decode cX10_isType 5 = .ok (.bipush 8, 2) := by decide +kernel
theorem dX10_isType_7 : decode cX10_isType 7 = .ok (.idiv, 1) := by decide +kernel
theorem dX10_isType_8 : decode cX10_isType 8 = .ok (.aload_n 0, 1) := by decide +kernel
theorem dX10_isType_9 : decode cX10_isType 9 = .ok (.getfield 19, 3) := by decide +kernel
theorem dX10_isType_12 : decode cX10_isType 12 = .ok (.if_icmp .ge 15, 3) := by decide +kernel
theorem dX10_isType_15 : decode cX10_isType 15 = .ok (.iload_n 1, 1) := by decide +kernel
theorem dX10_isType_16 : decode cX10_isType 16 = .ok (.bipush 8, 2) := by decide +kernel
theorem dX10_isType_18 : decode cX10_isType 18 = .ok (.irem, 1) := by decide +kernel
theorem dX10_isType_19 : decode cX10_isType 19 = .ok (.iconst 4, 1) := by decide +kernel
theorem dX10_isType_20 : decode cX10_isType 20 = .ok (.if_icmp .gt 7, 3) := by decide +kernel
theorem dX10_isType_23 : decode cX10_isType 23 = .ok (.iconst 1, 1) := by decide +kernel
theorem dX10_isType_24 : decode cX10_isType 24 = .ok (.goto 4, 3) := by decide +kernel
theorem dX10_isType_27 : decode cX10_isType 27 = .ok (.iconst 0, 1) := by decide +kernel
theorem dX10_isType_28 : decode cX10_isType 28 = .ok (.ireturn, 1) := by decide +kernel
theorem dX10_fits_0 : decode cX10_fits 0 = .ok (.iload_n 1, 1) := by decide +kernel
theorem dX10_fits_1 : decode cX10_fits 1 = .ok (.iload_n 2, 1) := by decide +kernel
theorem dX10_fits_2 : decode cX10_fits 2 = .ok (.if_icmp .eq 9, 3) := by decide +kernel
theorem dX10_fits_5 : decode cX10_fits 5 = .ok (.iload_n 2, 1) := by decide +kernel
theorem dX10_fits_6 : decode cX10_fits 6 = .ok (.bipush (-2), 2) := by decide +kernel
theorem dX10_fits_8 : decode cX10_fits 8 = .ok (.if_icmp .ne 5, 3) := by decide +kernel
theorem dX10_fits_11 : decode cX10_fits 11 = .ok (.iconst 1, 1) := by decide +kernel
theorem dX10_fits_12 : decode cX10_fits 12 = .ok (.ireturn, 1) := by decide +kernel
theorem dX10_fits_13 : decode cX10_fits 13 = .ok (.iload_n 2, 1) := by decide +kernel
theorem dX10_fits_14 : decode cX10_fits 14 = .ok (.invokestatic 27, 3) := by decide +kernel
theorem dX10_fits_17 : decode cX10_fits 17 = .ok (.ifCond .ne 5, 3) := by decide +kernel
theorem dX10_fits_20 : decode cX10_fits 20 = .ok (.iconst 0, 1) := by decide +kernel
theorem dX10_fits_21 : decode cX10_fits 21 = .ok (.ireturn, 1) := by decide +kernel
theorem dX10_fits_22 : decode cX10_fits 22 = .ok (.iload_n 1, 1) := by decide +kernel
theorem dX10_fits_23 : decode cX10_fits 23 = .ok (.iconst (-1), 1) := by decide +kernel
theorem dX10_fits_24 : decode cX10_fits 24 = .ok (.if_icmp .ne 5, 3) := by decide +kernel
theorem dX10_fits_27 : decode cX10_fits 27 = .ok (.iconst 1, 1) := by decide +kernel
theorem dX10_fits_28 : decode cX10_fits 28 = .ok (.ireturn, 1) := by decide +kernel
theorem dX10_fits_29 : decode cX10_fits 29 = .ok (.iload_n 1, 1) := by decide +kernel
theorem dX10_fits_30 : decode cX10_fits 30 = .ok (.invokestatic 27, 3) := by decide +kernel
theorem dX10_fits_33 : decode cX10_fits 33 = .ok (.ifCond .ne 5, 3) := by decide +kernel
theorem dX10_fits_36 : decode cX10_fits 36 = .ok (.iconst 0, 1) := by decide +kernel
theorem dX10_fits_37 : decode cX10_fits 37 = .ok (.ireturn, 1) := by decide +kernel
theorem dX10_fits_38 : decode cX10_fits 38 = .ok (.iload_n 1, 1) := by decide +kernel
theorem dX10_fits_39 : decode cX10_fits 39 = .ok (.invokestatic 30, 3) := by decide +kernel
theorem dX10_fits_42 : decode cX10_fits 42 = .ok (.iload_n 2, 1) := by decide +kernel
theorem dX10_fits_43 : decode cX10_fits 43 = .ok (.invokestatic 30, 3) := by decide +kernel
theorem dX10_fits_46 : decode cX10_fits 46 = .ok (.invokestatic 34, 3) := by decide +kernel
theorem dX10_fits_49 : decode cX10_fits 49 = .ok (.istore_n 3, 1) := by decide +kernel
theorem dX10_fits_50 : decode cX10_fits 50 = .ok (.iload_n 1, 1) := by decide +kernel
theorem dX10_fits_51 : decode cX10_fits 51 = .ok (.iload_n 3, 1) := by decide +kernel
theorem dX10_fits_52 : decode cX10_fits 52 = .ok (.isub, 1) := by decide +kernel
theorem dX10_fits_53 : decode cX10_fits 53 = .ok (.istore 4, 2) := by decide +kernel
theorem dX10_fits_55 : decode cX10_fits 55 = .ok (.iload_n 2, 1) := by decide +kernel
theorem dX10_fits_56 : decode cX10_fits 56 = .ok (.iload_n 3, 1) := by decide +kernel
theorem dX10_fits_57 : decode cX10_fits 57 = .ok (.isub, 1) := by decide +kernel
theorem dX10_fits_58 : decode cX10_fits 58 = .ok (.istore 5, 2) := by decide +kernel
theorem dX10_fits_60 : decode cX10_fits 60 = .ok (.iload 5, 2) := by decide +kernel
theorem dX10_fits_62 : decode cX10_fits 62 = .ok (.bipush 8, 2) := by decide +kernel
theorem dX10_fits_64 : decode cX10_fits 64 = .ok (.irem, 1) := by decide +kernel
theorem dX10_fits_65 : decode cX10_fits 65 = .ok (.ifCond .eq 5, 3) := by decide +kernel
theorem dX10_fits_68 : decode cX10_fits 68 = .ok (.iconst 0, 1) := by decide +kernel
theorem dX10_fits_69 : decode cX10_fits 69 = .ok (.ireturn, 1) := by decide +kernel
theorem dX10_fits_70 : decode cX10_fits 70 = .ok (.iload 5, 2) := by decide +kernel
theorem dX10_fits_72 : decode cX10_fits 72 = .ok (.bipush 16, 2) := by decide +kernel
theorem dX10_fits_74 : decode cX10_fits 74 = .ok (.if_icmp .eq 15, 3) := by decide +kernel
theorem dX10_fits_77 : decode cX10_fits 77 = .ok (.aload_n 0, 1) := by decide +kernel
theorem dX10_fits_78 : decode cX10_fits 78 = .ok (.iload 5, 2) := by decide +kernel
theorem dX10_fits_80 : decode cX10_fits 80 = .ok (.bipush 8, 2) := by decide +kernel
theorem dX10_fits_82 : decode cX10_fits 82 = .ok (.idiv, 1) := by decide +kernel
theorem dX10_fits_83 : decode cX10_fits 83 = .ok (.invokevirtual 40, 3) := by decide +kernel
theorem dX10_fits_86 : decode cX10_fits 86 = .ok (.ifCond .eq 5, 3) := by decide +kernel
theorem dX10_fits_89 : decode cX10_fits 89 = .ok (.iconst 1, 1) := by decide +kernel
theorem dX10_fits_90 : decode cX10_fits 90 = .ok (.ireturn, 1) := by decide +kernel
theorem dX10_fits_91 : decode cX10_fits 91 = .ok (.iload 4, 2) := by decide +kernel
theorem dX10_fits_93 : decode cX10_fits 93 = .ok (.bipush 8, 2) := by decide +kernel
theorem dX10_fits_95 : decode cX10_fits 95 = .ok (.irem, 1) := by decide +kernel
theorem dX10_fits_96 : decode cX10_fits 96 = .ok (.ifCond .ne 24, 3) := by decide +kernel
theorem dX10_fits_99 : decode cX10_fits 99 = .ok (.aload_n 0, 1) := by decide +kernel
theorem dX10_fits_100 : decode cX10_fits 100 = .ok (.iload 4, 2) := by decide +kernel
theorem dX10_fits_102 : decode cX10_fits 102 = .ok (.bipush 8, 2) := by decide +kernel
theorem dX10_fits_104 : decode cX10_fits 104 = .ok (.idiv, 1) := by decide +kernel
theorem dX10_fits_105 : decode cX10_fits 105 = .ok (.iload 5, 2) := by decide +kernel
theorem dX10_fits_107 : decode cX10_fits 107 = .ok (.bipush 8, 2) := by decide +kernel
theorem dX10_fits_109 : decode cX10_fits 109 = .ok (.idiv, 1) := by decide +kernel
theorem dX10_fits_110 : decode cX10_fits 110 = .ok (.invokevirtual 43, 3) := by decide +kernel
theorem dX10_fits_113 : decode cX10_fits 113 = .ok (.ifCond .eq 7, 3) := by decide +kernel
theorem dX10_fits_116 : decode cX10_fits 116 = .ok (.iconst 1, 1) := by decide +kernel
theorem dX10_fits_117 : decode cX10_fits 117 = .ok (.goto 4, 3) := by decide +kernel
theorem dX10_fits_120 : decode cX10_fits 120 = .ok (.iconst 0, 1) := by decide +kernel
theorem dX10_fits_121 : decode cX10_fits 121 = .ok (.ireturn, 1) := by decide +kernel
theorem dX10_commonSlot_0 : decode cX10_commonSlot 0 = .ok (.iload_n 1, 1) := by decide +kernel
theorem dX10_commonSlot_1 : decode cX10_commonSlot 1 = .ok (.iload_n 2, 1) := by decide +kernel
theorem dX10_commonSlot_2 : decode cX10_commonSlot 2 = .ok (.if_icmp .ne 5, 3) := by decide +kernel
theorem dX10_commonSlot_5 : decode cX10_commonSlot 5 = .ok (.iload_n 1, 1) := by decide +kernel
theorem dX10_commonSlot_6 : decode cX10_commonSlot 6 = .ok (.ireturn, 1) := by decide +kernel
theorem dX10_commonSlot_7 : decode cX10_commonSlot 7 = .ok (.iload_n 1, 1) := by decide +kernel
theorem dX10_commonSlot_8 : decode cX10_commonSlot 8 = .ok (.invokestatic 47, 3) := by decide +kernel
theorem dX10_commonSlot_11 : decode cX10_commonSlot 11 = .ok (.ifCond .eq 10, 3) := by decide +kernel
theorem dX10_commonSlot_14 : decode cX10_commonSlot 14 = .ok (.iload_n 2, 1) := by decide +kernel
theorem dX10_commonSlot_15 : decode cX10_commonSlot 15 = .ok (.invokestatic 47, 3) := by decide +kernel
theorem dX10_commonSlot_18 : decode cX10_commonSlot 18 = .ok (.ifCond .ne 6, 3) := by decide +kernel
theorem dX10_commonSlot_21 : decode cX10_commonSlot 21 = .ok (.bipush (-2), 2) := by decide +kernel
theorem dX10_commonSlot_23 : decode cX10_commonSlot 23 = .ok (.ireturn, 1) := by decide +kernel
theorem dX10_commonSlot_24 : decode cX10_commonSlot 24 = .ok (.iload_n 1, 1) := by decide +kernel
theorem dX10_commonSlot_25 : decode cX10_commonSlot 25 = .ok (.iconst (-1), 1) := by decide +kernel
theorem dX10_commonSlot_26 : decode cX10_commonSlot 26 = .ok (.if_icmp .ne 5, 3) := by decide +kernel
theorem dX10_commonSlot_29 : decode cX10_commonSlot 29 = .ok (.iload_n 2, 1) := by decide +kernel
theorem dX10_commonSlot_30 : decode cX10_commonSlot 30 = .ok (.ireturn, 1) := by decide +kernel
theorem dX10_commonSlot_31 : decode cX10_commonSlot 31 = .ok (.iload_n 2, 1) := by decide +kernel
theorem dX10_commonSlot_32 : decode cX10_commonSlot 32 = .ok (.iconst (-1), 1) := by decide +kernel
theorem dX10_commonSlot_33 : decode cX10_commonSlot 33 = .ok (.if_icmp .ne 5, 3) := by decide +kernel
theorem dX10_commonSlot_36 : decode cX10_commonSlot 36 = .ok (.iload_n 1, 1) := by decide +kernel
theorem dX10_commonSlot_37 : decode cX10_commonSlot 37 = .ok (.ireturn, 1) := by decide +kernel
theorem dX10_commonSlot_38 : decode cX10_commonSlot 38 = .ok (.iload_n 1, 1) := by decide +kernel
theorem dX10_commonSlot_39 : decode cX10_commonSlot 39 = .ok (.invokestatic 30, 3) := by decide +kernel
theorem dX10_commonSlot_42 : decode cX10_commonSlot 42 = .ok (.iload_n 2, 1) := by decide +kernel
theorem dX10_commonSlot_43 : decode cX10_commonSlot 43 = .ok (.invokestatic 30, 3) := by decide +kernel
theorem dX10_commonSlot_46 : decode cX10_commonSlot 46 = .ok (.invokestatic 34, 3) := by decide +kernel
theorem dX10_commonSlot_49 : decode cX10_commonSlot 49 = .ok (.istore_n 3, 1) := by decide +kernel
theorem dX10_commonSlot_50 : decode cX10_commonSlot 50 = .ok (.iload_n 1, 1) := by decide +kernel
theorem dX10_commonSlot_51 : decode cX10_commonSlot 51 = .ok (.iload_n 3, 1) := by decide +kernel
theorem dX10_commonSlot_52 : decode cX10_commonSlot 52 = .ok (.isub, 1) := by decide +kernel
theorem dX10_commonSlot_53 : decode cX10_commonSlot 53 = .ok (.istore 4, 2) := by decide +kernel
theorem dX10_commonSlot_55 : decode cX10_commonSlot 55 = .ok (.iload_n 2, 1) := by decide +kernel
theorem dX10_commonSlot_56 : decode cX10_commonSlot 56 = .ok (.iload_n 3, 1) := by decide +kernel
theorem dX10_commonSlot_57 : decode cX10_commonSlot 57 = .ok (.isub, 1) := by decide +kernel
theorem dX10_commonSlot_58 : decode cX10_commonSlot 58 = .ok (.istore 5, 2) := by decide +kernel
theorem dX10_commonSlot_60 : decode cX10_commonSlot 60 = .ok (.iload 4, 2) := by decide +kernel
theorem dX10_commonSlot_62 : decode cX10_commonSlot 62 = .ok (.bipush 8, 2) := by decide +kernel
theorem dX10_commonSlot_64 : decode cX10_commonSlot 64 = .ok (.irem, 1) := by decide +kernel
theorem dX10_commonSlot_65 : decode cX10_commonSlot 65 = .ok (.ifCond .ne 11, 3) := by decide +kernel
theorem dX10_commonSlot_68 : decode cX10_commonSlot 68 = .ok (.iload 5, 2) := by decide +kernel
theorem dX10_commonSlot_70 : decode cX10_commonSlot 70 = .ok (.bipush 8, 2) := by decide +kernel
theorem dX10_commonSlot_72 : decode cX10_commonSlot 72 = .ok (.irem, 1) := by decide +kernel
theorem dX10_commonSlot_73 : decode cX10_commonSlot 73 = .ok (.ifCond .eq 8, 3) := by decide +kernel
theorem dX10_commonSlot_76 : decode cX10_commonSlot 76 = .ok (.bipush 16, 2) := by decide +kernel
theorem dX10_commonSlot_78 : decode cX10_commonSlot 78 = .ok (.iload_n 3, 1) := by decide +kernel
theorem dX10_commonSlot_79 : decode cX10_commonSlot 79 = .ok (.iadd, 1) := by decide +kernel
theorem dX10_commonSlot_80 : decode cX10_commonSlot 80 = .ok (.ireturn, 1) := by decide +kernel
theorem dX10_commonSlot_81 : decode cX10_commonSlot 81 = .ok (.bipush 8, 2) := by decide +kernel
theorem dX10_commonSlot_83 : decode cX10_commonSlot 83 = .ok (.aload_n 0, 1) := by decide +kernel
theorem dX10_commonSlot_84 : decode cX10_commonSlot 84 = .ok (.iload 4, 2) := by decide +kernel
theorem dX10_commonSlot_86 : decode cX10_commonSlot 86 = .ok (.bipush 8, 2) := by decide +kernel
theorem dX10_commonSlot_88 : decode cX10_commonSlot 88 = .ok (.idiv, 1) := by decide +kernel
theorem dX10_commonSlot_89 : decode cX10_commonSlot 89 = .ok (.iload 5, 2) := by decide +kernel
theorem dX10_commonSlot_91 : decode cX10_commonSlot 91 = .ok (.bipush 8, 2) := by decide +kernel
theorem dX10_commonSlot_93 : decode cX10_commonSlot 93 = .ok (.idiv, 1) := by decide +kernel
theorem dX10_commonSlot_94 : decode cX10_commonSlot 94 = .ok (.invokevirtual 50, 3) := by decide +kernel
theorem dX10_commonSlot_97 : decode cX10_commonSlot 97 = .ok (.imul, 1) := by decide +kernel
theorem dX10_commonSlot_98 : decode cX10_commonSlot 98 = .ok (.iload_n 3, 1) := by decide +kernel
theorem dX10_commonSlot_99 : decode cX10_commonSlot 99 = .ok (.iadd, 1) := by decide +kernel
theorem dX10_commonSlot_100 : decode cX10_commonSlot 100 = .ok (.ireturn, 1) := by decide +kernel
theorem dX10_referenceLevels_0 : decode cX10_referenceLevels 0 = .ok (.iload_n 0, 1) := by decide +kernel
theorem dX10_referenceLevels_1 : decode cX10_referenceLevels 1 = .ok (.bipush 8, 2) := by decide +kernel
theorem dX10_referenceLevels_3 : decode cX10_referenceLevels 3 = .ok (.irem, 1) := by decide +kernel
theorem dX10_referenceLevels_4 : decode cX10_referenceLevels 4 = .ok (.istore_n 1, 1) := by decide +kernel
theorem dX10_referenceLevels_5 : decode cX10_referenceLevels 5 = .ok (.iload_n 0, 1) := by decide +kernel
theorem dX10_referenceLevels_6 : decode cX10_referenceLevels 6 = .ok (.bipush 8, 2) := by decide +kernel
theorem dX10_referenceLevels_8 : decode cX10_referenceLevels 8 = .ok (.idiv, 1) := by decide +kernel
theorem dX10_referenceLevels_9 : decode cX10_referenceLevels 9 = .ok (.iconst 2, 1) := by decide +kernel
theorem dX10_referenceLevels_10 : decode cX10_referenceLevels 10 = .ok (.if_icmp .ge 7, 3) := by decide +kernel
theorem dX10_referenceLevels_13 : decode cX10_referenceLevels 13 = .ok (.iconst 1, 1) := by decide +kernel
theorem dX10_referenceLevels_14 : decode cX10_referenceLevels 14 = .ok (.goto 4, 3) := by decide +kernel
theorem dX10_referenceLevels_17 : decode cX10_referenceLevels 17 = .ok (.iconst 0, 1) := by decide +kernel
theorem dX10_referenceLevels_18 : decode cX10_referenceLevels 18 = .ok (.istore_n 2, 1) := by decide +kernel
theorem dX10_referenceLevels_19 : decode cX10_referenceLevels 19 = .ok (.iload_n 2, 1) := by decide +kernel
theorem dX10_referenceLevels_20 : decode cX10_referenceLevels 20 = .ok (.ifCond .eq 13, 3) := by decide +kernel
theorem dX10_referenceLevels_23 : decode cX10_referenceLevels 23 = .ok (.iload_n 1, 1) := by decide +kernel
theorem dX10_referenceLevels_24 : decode cX10_referenceLevels 24 = .ok (.ifCond .le 9, 3) := by decide +kernel
theorem dX10_referenceLevels_27 : decode cX10_referenceLevels 27 = .ok (.iload_n 1, 1) := by decide +kernel
theorem dX10_referenceLevels_28 : decode cX10_referenceLevels 28 = .ok (.iconst 1, 1) := by decide +kernel
theorem dX10_referenceLevels_29 : decode cX10_referenceLevels 29 = .ok (.isub, 1) := by decide +kernel
theorem dX10_referenceLevels_30 : decode cX10_referenceLevels 30 = .ok (.goto 4, 3) := by decide +kernel
theorem dX10_referenceLevels_33 : decode cX10_referenceLevels 33 = .ok (.iload_n 1, 1) := by decide +kernel
theorem dX10_referenceLevels_34 : decode cX10_referenceLevels 34 = .ok (.ireturn, 1) := by decide +kernel
theorem dX10_commonClass_0 : decode cX10_commonClass 0 = .ok (.aload_n 0, 1) := by decide +kernel
theorem dX10_commonClass_1 : decode cX10_commonClass 1 = .ok (.iload_n 1, 1) := by decide +kernel
theorem dX10_commonClass_2 : decode cX10_commonClass 2 = .ok (.invokevirtual 53, 3) := by decide +kernel
theorem dX10_commonClass_5 : decode cX10_commonClass 5 = .ok (.ifCond .eq 11, 3) := by decide +kernel
theorem dX10_commonClass_8 : decode cX10_commonClass 8 = .ok (.aload_n 0, 1) := by decide +kernel
theorem dX10_commonClass_9 : decode cX10_commonClass 9 = .ok (.iload_n 2, 1) := by decide +kernel
theorem dX10_commonClass_10 : decode cX10_commonClass 10 = .ok (.invokevirtual 53, 3) := by decide +kernel
theorem dX10_commonClass_13 : decode cX10_commonClass 13 = .ok (.ifCond .ne 5, 3) := by decide +kernel
theorem dX10_commonClass_16 : decode cX10_commonClass 16 = .ok (.iconst 2, 1) := by decide +kernel
theorem dX10_commonClass_17 : decode cX10_commonClass 17 = .ok (.ireturn, 1) := by decide +kernel
theorem dX10_commonClass_18 : decode cX10_commonClass 18 = .ok (.iload_n 1, 1) := by decide +kernel
theorem dX10_commonClass_19 : decode cX10_commonClass 19 = .ok (.istore_n 3, 1) := by decide +kernel
theorem dX10_commonClass_20 : decode cX10_commonClass 20 = .ok (.iconst 0, 1) := by decide +kernel
theorem dX10_commonClass_21 : decode cX10_commonClass 21 = .ok (.istore 4, 2) := by decide +kernel
theorem dX10_commonClass_23 : decode cX10_commonClass 23 = .ok (.iload 4, 2) := by decide +kernel
theorem dX10_commonClass_25 : decode cX10_commonClass 25 = .ok (.bipush 20, 2) := by decide +kernel
theorem dX10_commonClass_27 : decode cX10_commonClass 27 = .ok (.if_icmp .ge 32, 3) := by decide +kernel
theorem dX10_commonClass_30 : decode cX10_commonClass 30 = .ok (.iload_n 3, 1) := by decide +kernel
theorem dX10_commonClass_31 : decode cX10_commonClass 31 = .ok (.iconst (-1), 1) := by decide +kernel
theorem dX10_commonClass_32 : decode cX10_commonClass 32 = .ok (.if_icmp .eq 27, 3) := by decide +kernel
theorem dX10_commonClass_35 : decode cX10_commonClass 35 = .ok (.aload_n 0, 1) := by decide +kernel
theorem dX10_commonClass_36 : decode cX10_commonClass 36 = .ok (.iload_n 2, 1) := by decide +kernel
theorem dX10_commonClass_37 : decode cX10_commonClass 37 = .ok (.iload_n 3, 1) := by decide +kernel
theorem dX10_commonClass_38 : decode cX10_commonClass 38 = .ok (.invokevirtual 43, 3) := by decide +kernel
theorem dX10_commonClass_41 : decode cX10_commonClass 41 = .ok (.ifCond .eq 5, 3) := by decide +kernel
theorem dX10_commonClass_44 : decode cX10_commonClass 44 = .ok (.iload_n 3, 1) := by decide +kernel
theorem dX10_commonClass_45 : decode cX10_commonClass 45 = .ok (.ireturn, 1) := by decide +kernel
theorem dX10_commonClass_46 : decode cX10_commonClass 46 = .ok (.aload_n 0, 1) := by decide +kernel
theorem dX10_commonClass_47 : decode cX10_commonClass 47 = .ok (.getfield 9, 3) := by decide +kernel
theorem dX10_commonClass_50 : decode cX10_commonClass 50 = .ok (.iload_n 3, 1) := by decide +kernel
theorem dX10_commonClass_51 : decode cX10_commonClass 51 = .ok (.iaload, 1) := by decide +kernel
theorem dX10_commonClass_52 : decode cX10_commonClass 52 = .ok (.istore_n 3, 1) := by decide +kernel
theorem dX10_commonClass_53 : decode cX10_commonClass 53 = .ok (.iinc 4 1, 3) := by decide +kernel
theorem dX10_commonClass_56 : decode cX10_commonClass 56 = .ok (.goto (-33), 3) := by decide +kernel
theorem dX10_commonClass_59 : decode cX10_commonClass 59 = .ok (.iconst 2, 1) := by decide +kernel
theorem dX10_commonClass_60 : decode cX10_commonClass 60 = .ok (.ireturn, 1) := by decide +kernel
theorem dX10_inherits_0 : decode cX10_inherits 0 = .ok (.iload_n 1, 1) := by decide +kernel
theorem dX10_inherits_1 : decode cX10_inherits 1 = .ok (.istore_n 3, 1) := by decide +kernel
theorem dX10_inherits_2 : decode cX10_inherits 2 = .ok (.iconst 0, 1) := by decide +kernel
theorem dX10_inherits_3 : decode cX10_inherits 3 = .ok (.istore 4, 2) := by decide +kernel
theorem dX10_inherits_5 : decode cX10_inherits 5 = .ok (.iload 4, 2) := by decide +kernel
theorem dX10_inherits_7 : decode cX10_inherits 7 = .ok (.bipush 20, 2) := by decide +kernel
theorem dX10_inherits_9 : decode cX10_inherits 9 = .ok (.if_icmp .ge 28, 3) := by decide +kernel
theorem dX10_inherits_12 : decode cX10_inherits 12 = .ok (.iload_n 3, 1) := by decide +kernel
theorem dX10_inherits_13 : decode cX10_inherits 13 = .ok (.iconst (-1), 1) := by decide +kernel
theorem dX10_inherits_14 : decode cX10_inherits 14 = .ok (.if_icmp .eq 23, 3) := by decide +kernel
theorem dX10_inherits_17 : decode cX10_inherits 17 = .ok (.iload_n 3, 1) := by decide +kernel
theorem dX10_inherits_18 : decode cX10_inherits 18 = .ok (.iload_n 2, 1) := by decide +kernel
theorem dX10_inherits_19 : decode cX10_inherits 19 = .ok (.if_icmp .ne 5, 3) := by decide +kernel
theorem dX10_inherits_22 : decode cX10_inherits 22 = .ok (.iconst 1, 1) := by decide +kernel
theorem dX10_inherits_23 : decode cX10_inherits 23 = .ok (.ireturn, 1) := by decide +kernel
theorem dX10_inherits_24 : decode cX10_inherits 24 = .ok (.aload_n 0, 1) := by decide +kernel
theorem dX10_inherits_25 : decode cX10_inherits 25 = .ok (.getfield 9, 3) := by decide +kernel
theorem dX10_inherits_28 : decode cX10_inherits 28 = .ok (.iload_n 3, 1) := by decide +kernel
theorem dX10_inherits_29 : decode cX10_inherits 29 = .ok (.iaload, 1) := by decide +kernel
theorem dX10_inherits_30 : decode cX10_inherits 30 = .ok (.istore_n 3, 1) := by decide +kernel
theorem dX10_inherits_31 : decode cX10_inherits 31 = .ok (.iinc 4 1, 3) := by decide +kernel
theorem dX10_inherits_34 : decode cX10_inherits 34 = .ok (.goto (-29), 3) := by decide +kernel
theorem dX10_inherits_37 : decode cX10_inherits 37 = .ok (.iconst 0, 1) := by decide +kernel
theorem dX10_inherits_38 : decode cX10_inherits 38 = .ok (.ireturn, 1) := by decide +kernel
theorem dX10_frameFits_0 : decode cX10_frameFits 0 = .ok (.aload_n 1, 1) := by decide +kernel
theorem dX10_frameFits_1 : decode cX10_frameFits 1 = .ok (.getfield 56, 3) := by decide +kernel
theorem dX10_frameFits_4 : decode cX10_frameFits 4 = .ok (.aload_n 2, 1) := by decide +kernel
theorem dX10_frameFits_5 : decode cX10_frameFits 5 = .ok (.getfield 56, 3) := by decide +kernel
theorem dX10_frameFits_8 : decode cX10_frameFits 8 = .ok (.if_icmp .ne 17, 3) := by decide +kernel
theorem dX10_frameFits_11 : decode cX10_frameFits 11 = .ok (.aload_n 1, 1) := by decide +kernel
theorem dX10_frameFits_12 : decode cX10_frameFits 12 = .ok (.getfield 61, 3) := by decide +kernel
theorem dX10_frameFits_15 : decode cX10_frameFits 15 = .ok (.ifCond .eq 12, 3) := by decide +kernel
theorem dX10_frameFits_18 : decode cX10_frameFits 18 = .ok (.aload_n 2, 1) := by decide +kernel
theorem dX10_frameFits_19 : decode cX10_frameFits 19 = .ok (.getfield 61, 3) := by decide +kernel
theorem dX10_frameFits_22 : decode cX10_frameFits 22 = .ok (.ifCond .ne 5, 3) := by decide +kernel
theorem dX10_frameFits_25 : decode cX10_frameFits 25 = .ok (.iconst 0, 1) := by decide +kernel
theorem dX10_frameFits_26 : decode cX10_frameFits 26 = .ok (.ireturn, 1) := by decide +kernel
theorem dX10_frameFits_27 : decode cX10_frameFits 27 = .ok (.iconst 0, 1) := by decide +kernel
theorem dX10_frameFits_28 : decode cX10_frameFits 28 = .ok (.istore_n 3, 1) := by decide +kernel
theorem dX10_frameFits_29 : decode cX10_frameFits 29 = .ok (.iload_n 3, 1) := by decide +kernel
theorem dX10_frameFits_30 : decode cX10_frameFits 30 = .ok (.bipush 12, 2) := by decide +kernel
theorem dX10_frameFits_32 : decode cX10_frameFits 32 = .ok (.if_icmp .ge 30, 3) := by decide +kernel
theorem dX10_frameFits_35 : decode cX10_frameFits 35 = .ok (.aload_n 0, 1) := by decide +kernel
theorem dX10_frameFits_36 : decode cX10_frameFits 36 = .ok (.aload_n 1, 1) := by decide +kernel
theorem dX10_frameFits_37 : decode cX10_frameFits 37 = .ok (.getfield 65, 3) := by decide +kernel
theorem dX10_frameFits_40 : decode cX10_frameFits 40 = .ok (.iload_n 3, 1) := by decide +kernel
theorem dX10_frameFits_41 : decode cX10_frameFits 41 = .ok (.iaload, 1) := by decide +kernel
theorem dX10_frameFits_42 : decode cX10_frameFits 42 = .ok (.aload_n 2, 1) := by decide +kernel
theorem dX10_frameFits_43 : decode cX10_frameFits 43 = .ok (.getfield 65, 3) := by decide +kernel
theorem dX10_frameFits_46 : decode cX10_frameFits 46 = .ok (.iload_n 3, 1) := by decide +kernel
theorem dX10_frameFits_47 : decode cX10_frameFits 47 = .ok (.iaload, 1) := by decide +kernel
theorem dX10_frameFits_48 : decode cX10_frameFits 48 = .ok (.invokevirtual 68, 3) := by decide +kernel
theorem dX10_frameFits_51 : decode cX10_frameFits 51 = .ok (.ifCond .ne 5, 3) := by decide +kernel
theorem dX10_frameFits_54 : decode cX10_frameFits 54 = .ok (.iconst 0, 1) := by decide +kernel
theorem dX10_frameFits_55 : decode cX10_frameFits 55 = .ok (.ireturn, 1) := by decide +kernel
theorem dX10_frameFits_56 : decode cX10_frameFits 56 = .ok (.iinc 3 1, 3) := by decide +kernel
theorem dX10_frameFits_59 : decode cX10_frameFits 59 = .ok (.goto (-30), 3) := by decide +kernel
theorem dX10_frameFits_62 : decode cX10_frameFits 62 = .ok (.iconst 0, 1) := by decide +kernel
theorem dX10_frameFits_63 : decode cX10_frameFits 63 = .ok (.istore_n 3, 1) := by decide +kernel
theorem dX10_frameFits_64 : decode cX10_frameFits 64 = .ok (.iload_n 3, 1) := by decide +kernel
theorem dX10_frameFits_65 : decode cX10_frameFits 65 = .ok (.aload_n 1, 1) := by decide +kernel
theorem dX10_frameFits_66 : decode cX10_frameFits 66 = .ok (.getfield 56, 3) := by decide +kernel
theorem dX10_frameFits_69 : decode cX10_frameFits 69 = .ok (.if_icmp .ge 30, 3) := by decide +kernel
theorem dX10_frameFits_72 : decode cX10_frameFits 72 = .ok (.aload_n 0, 1) := by decide +kernel
theorem dX10_frameFits_73 : decode cX10_frameFits 73 = .ok (.aload_n 1, 1) := by decide +kernel
theorem dX10_frameFits_74 : decode cX10_frameFits 74 = .ok (.getfield 71, 3) := by decide +kernel
theorem dX10_frameFits_77 : decode cX10_frameFits 77 = .ok (.iload_n 3, 1) := by decide +kernel
theorem dX10_frameFits_78 : decode cX10_frameFits 78 = .ok (.iaload, 1) := by decide +kernel
theorem dX10_frameFits_79 : decode cX10_frameFits 79 = .ok (.aload_n 2, 1) := by decide +kernel
theorem dX10_frameFits_80 : decode cX10_frameFits 80 = .ok (.getfield 71, 3) := by decide +kernel
theorem dX10_frameFits_83 : decode cX10_frameFits 83 = .ok (.iload_n 3, 1) := by decide +kernel
theorem dX10_frameFits_84 : decode cX10_frameFits 84 = .ok (.iaload, 1) := by decide +kernel
theorem dX10_frameFits_85 : decode cX10_frameFits 85 = .ok (.invokevirtual 68, 3) := by decide +kernel
theorem dX10_frameFits_88 : decode cX10_frameFits 88 = .ok (.ifCond .ne 5, 3) := by decide +kernel
theorem dX10_frameFits_91 : decode cX10_frameFits 91 = .ok (.iconst 0, 1) := by decide +kernel
theorem dX10_frameFits_92 : decode cX10_frameFits 92 = .ok (.ireturn, 1) := by decide +kernel
theorem dX10_frameFits_93 : decode cX10_frameFits 93 = .ok (.iinc 3 1, 3) := by decide +kernel
theorem dX10_frameFits_96 : decode cX10_frameFits 96 = .ok (.goto (-32), 3) := by decide +kernel
theorem dX10_frameFits_99 : decode cX10_frameFits 99 = .ok (.iconst 1, 1) := by decide +kernel
theorem dX10_frameFits_100 : decode cX10_frameFits 100 = .ok (.ireturn, 1) := by decide +kernel
theorem dX11_init_0 : decode cX11_init 0 = .ok (.aload_n 0, 1) := by decide +kernel
theorem dX11_init_1 : decode cX11_init 1 = .ok (.invokespecial 1, 3) := by decide +kernel
theorem dX11_init_4 : decode cX11_init 4 = .ok (.aload_n 0, 1) := by decide +kernel
theorem dX11_init_5 : decode cX11_init 5 = .ok (.new 7, 3) := by decide +kernel
theorem dX11_init_8 : decode cX11_init 8 = .ok (.dup, 1) := by decide +kernel
theorem dX11_init_9 : decode cX11_init 9 = .ok (.invokespecial 9, 3) := by decide +kernel
theorem dX11_init_12 : decode cX11_init 12 = .ok (.putfield 10, 3) := by decide +kernel
theorem dX11_init_15 : decode cX11_init 15 = .ok (.aload_n 0, 1) := by decide +kernel
theorem dX11_init_16 : decode cX11_init 16 = .ok (.new 16, 3) := by decide +kernel
theorem dX11_init_19 : decode cX11_init 19 = .ok (.dup, 1) := by decide +kernel
theorem dX11_init_20 : decode cX11_init 20 = .ok (.invokespecial 18, 3) := by decide +kernel
theorem dX11_init_23 : decode cX11_init 23 = .ok (.putfield 19, 3) := by decide +kernel
theorem dX11_init_26 : decode cX11_init 26 = .ok (.aload_n 0, 1) := by decide +kernel
theorem dX11_init_27 : decode cX11_init 27 = .ok (.new 23, 3) := by decide +kernel
theorem dX11_init_30 : decode cX11_init 30 = .ok (.dup, 1) := by decide +kernel
theorem dX11_init_31 : decode cX11_init 31 = .ok (.invokespecial 25, 3) := by decide +kernel
theorem dX11_init_34 : decode cX11_init 34 = .ok (.putfield 26, 3) := by decide +kernel
theorem dX11_init_37 : decode cX11_init 37 = .ok (.aload_n 0, 1) := by decide +kernel
theorem dX11_init_38 : decode cX11_init 38 = .ok (.new 30, 3) := by decide +kernel
theorem dX11_init_41 : decode cX11_init 41 = .ok (.dup, 1) := by decide +kernel
theorem dX11_init_42 : decode cX11_init 42 = .ok (.invokespecial 32, 3) := by decide +kernel
theorem dX11_init_45 : decode cX11_init 45 = .ok (.putfield 33, 3) := by decide +kernel
theorem dX11_init_48 : decode cX11_init 48 = .ok (.aload_n 0, 1) := by decide +kernel
theorem dX11_init_49 : decode cX11_init 49 = .ok (.getfield 33, 3) := by decide +kernel
theorem dX11_init_52 : decode cX11_init 52 = .ok (.invokevirtual 37, 3) := by decide +kernel
theorem dX11_init_55 : decode cX11_init 55 = .ok (.aload_n 0, 1) := by decide +kernel
theorem dX11_init_56 : decode cX11_init 56 = .ok (.iconst 0, 1) := by decide +kernel
theorem dX11_init_57 : decode cX11_init 57 = .ok (.putfield 40, 3) := by decide +kernel
theorem dX11_init_60 : decode cX11_init 60 = .ok (.aload_n 0, 1) := by decide +kernel
theorem dX11_init_61 : decode cX11_init 61 = .ok (.new 44, 3) := by decide +kernel
theorem dX11_init_64 : decode cX11_init 64 = .ok (.dup, 1) := by decide +kernel
theorem dX11_init_65 : decode cX11_init 65 = .ok (.invokespecial 46, 3) := by decide +kernel
theorem dX11_init_68 : decode cX11_init 68 = .ok (.putfield 47, 3) := by decide +kernel
theorem dX11_init_71 : decode cX11_init 71 = .ok (.aload_n 0, 1) := by decide +kernel
theorem dX11_init_72 : decode cX11_init 72 = .ok (.new 44, 3) := by decide +kernel
theorem dX11_init_75 : decode cX11_init 75 = .ok (.dup, 1) := by decide +kernel
theorem dX11_init_76 : decode cX11_init 76 = .ok (.invokespecial 46, 3) := by decide +kernel
theorem dX11_init_79 : decode cX11_init 79 = .ok (.putfield 51, 3) := by decide +kernel
theorem dX11_init_82 : decode cX11_init 82 = .ok (.aload_n 0, 1) := by decide +kernel
theorem dX11_init_83 : decode cX11_init 83 = .ok (.new 54, 3) := by decide +kernel
theorem dX11_init_86 : decode cX11_init 86 = .ok (.dup, 1) := by decide +kernel
theorem dX11_init_87 : decode cX11_init 87 = .ok (.aload_n 0, 1) := by decide +kernel
theorem dX11_init_88 : decode cX11_init 88 = .ok (.getfield 10, 3) := by decide +kernel
theorem dX11_init_91 : decode cX11_init 91 = .ok (.aload_n 0, 1) := by decide +kernel
theorem dX11_init_92 : decode cX11_init 92 = .ok (.getfield 19, 3) := by decide +kernel
theorem dX11_init_95 : decode cX11_init 95 = .ok (.aload_n 0, 1) := by decide +kernel
theorem dX11_init_96 : decode cX11_init 96 = .ok (.getfield 26, 3) := by decide +kernel
theorem dX11_init_99 : decode cX11_init 99 = .ok (.aload_n 0, 1) := by decide +kernel
theorem dX11_init_100 : decode cX11_init 100 = .ok (.getfield 47, 3) := by decide +kernel
theorem dX11_init_103 : decode cX11_init 103 = .ok (.invokespecial 56, 3) := by decide +kernel
theorem dX11_init_106 : decode cX11_init 106 = .ok (.putfield 59, 3) := by decide +kernel
theorem dX11_init_109 : decode cX11_init 109 = .ok (.aload_n 0, 1) := by decide +kernel
theorem dX11_init_110 : decode cX11_init 110 = .ok (.new 63, 3) := by decide +kernel
theorem dX11_init_113 : decode cX11_init 113 = .ok (.dup, 1) := by decide +kernel
theorem dX11_init_114 : decode cX11_init 114 = .ok (.aload_n 0, 1) := by decide +kernel
theorem dX11_init_115 : decode cX11_init 115 = .ok (.getfield 10, 3) := by decide +kernel
theorem dX11_init_118 : decode cX11_init 118 = .ok (.aload_n 0, 1) := by decide +kernel
theorem dX11_init_119 : decode cX11_init 119 = .ok (.getfield 19, 3) := by decide +kernel
theorem dX11_init_122 : decode cX11_init 122 = .ok (.aload_n 0, 1) := by decide +kernel
theorem dX11_init_123 : decode cX11_init 123 = .ok (.getfield 26, 3) := by decide +kernel
theorem dX11_init_126 : decode cX11_init 126 = .ok (.aload_n 0, 1) := by decide +kernel
theorem dX11_init_127 : decode cX11_init 127 = .ok (.getfield 51, 3) := by decide +kernel
theorem dX11_init_130 : decode cX11_init 130 = .ok (.invokespecial 65, 3) := by decide +kernel
theorem dX11_init_133 : decode cX11_init 133 = .ok (.putfield 66, 3) := by decide +kernel
theorem dX11_init_136 : decode cX11_init 136 = .ok (.aload_n 0, 1) := by decide +kernel
theorem dX11_init_137 : decode cX11_init 137 = .ok (.iconst (-1), 1) := by decide +kernel
theorem dX11_init_138 : decode cX11_init 138 = .ok (.putfield 70, 3) := by decide +kernel
theorem dX11_init_141 : decode cX11_init 141 = .ok (.aload_n 0, 1) := by decide +kernel
theorem dX11_init_142 : decode cX11_init 142 = .ok (.iconst 0, 1) := by decide +kernel
theorem dX11_init_143 : decode cX11_init 143 = .ok (.putfield 73, 3) := by decide +kernel
theorem dX11_init_146 : decode cX11_init 146 = .ok (.return_, 1) := by decide +kernel
theorem dX11_declareClass_0 : decode cX11_declareClass 0 = .ok (.aload_n 0, 1) := by decide +kernel
theorem dX11_declareClass_1 : decode cX11_declareClass 1 = .ok (.getfield 10, 3) := by decide +kernel
theorem dX11_declareClass_4 : decode cX11_declareClass 4 = .ok (.iload_n 1, 1) := by decide +kernel
theorem dX11_declareClass_5 : decode cX11_declareClass 5 = .ok (.invokevirtual 76, 3) := by decide +kernel
theorem dX11_declareClass_8 : decode cX11_declareClass 8 = .ok (.ifCond .eq 12, 3) := by decide +kernel
theorem dX11_declareClass_11 : decode cX11_declareClass 11 = .ok (.iload_n 2, 1) := by decide +kernel
theorem dX11_declareClass_12 : decode cX11_declareClass 12 = .ok (.ifCond .eq 18, 3) := by decide +kernel
theorem dX11_declareClass_15 : decode cX11_declareClass 15 = .ok (.iload_n 1, 1) := by decide +kernel
theorem dX11_declareClass_16 : decode cX11_declareClass 16 = .ok (.iconst 2, 1) := by decide +kernel
theorem dX11_declareClass_17 : decode cX11_declareClass 17 = .ok (.if_icmp .eq 13, 3) := by decide +kernel
theorem dX11_declareClass_20 : decode cX11_declareClass 20 = .ok (.new 80, 3) := by decide +kernel
theorem dX11_declareClass_23 : decode cX11_declareClass 23 = .ok (.dup, 1) := by decide +kernel
theorem dX11_declareClass_24 : decode cX11_declareClass 24 = .ok (.ldc 82, 2) := by decide +kernel
theorem dX11_declareClass_26 : decode cX11_declareClass 26 = .ok (.invokespecial 84, 3) := by decide +kernel
theorem dX11_declareClass_29 : decode cX11_declareClass 29 = .ok (.athrow, 1) := by decide +kernel
theorem dX11_declareClass_30 : decode cX11_declareClass 30 = .ok (.aload_n 0, 1) := by decide +kernel
theorem dX11_declareClass_31 : decode cX11_declareClass 31 = .ok (.getfield 10, 3) := by decide +kernel
theorem dX11_declareClass_34 : decode cX11_declareClass 34 = .ok (.getfield 87, 3) := by decide +kernel
theorem dX11_declareClass_37 : decode cX11_declareClass 37 = .ok (.bipush 20, 2) := by decide +kernel
theorem dX11_declareClass_39 : decode cX11_declareClass 39 = .ok (.if_icmp .lt 13, 3) := by decide +kernel
theorem dX11_declareClass_42 : decode cX11_declareClass 42 = .ok (.new 90, 3) := by decide +kernel
theorem dX11_declareClass_45 : decode cX11_declareClass 45 = .ok (.dup, 1) := by decide +kernel
theorem dX11_declareClass_46 : decode cX11_declareClass 46 = .ok (.ldc 92, 2) := by decide +kernel
theorem dX11_declareClass_48 : decode cX11_declareClass 48 = .ok (.invokespecial 94, 3) := by decide +kernel
theorem dX11_declareClass_51 : decode cX11_declareClass 51 = .ok (.athrow, 1) := by decide +kernel
theorem dX11_declareClass_52 : decode cX11_declareClass 52 = .ok (.aload_n 0, 1) := by decide +kernel
theorem dX11_declareClass_53 : decode cX11_declareClass 53 = .ok (.getfield 10, 3) := by decide +kernel
theorem dX11_declareClass_56 : decode cX11_declareClass 56 = .ok (.iload_n 1, 1) := by decide +kernel
theorem dX11_declareClass_57 : decode cX11_declareClass 57 = .ok (.iload_n 2, 1) := by decide +kernel
theorem dX11_declareClass_58 : decode cX11_declareClass 58 = .ok (.invokevirtual 95, 3) := by decide +kernel
theorem dX11_declareClass_61 : decode cX11_declareClass 61 = .ok (.ireturn, 1) := by decide +kernel
theorem dX11_parameter_0 : decode cX11_parameter 0 = .ok (.aload_n 0, 1) := by decide +kernel
theorem dX11_parameter_1 : decode cX11_parameter 1 = .ok (.getfield 10, 3) := by decide +kernel
theorem dX11_parameter_4 : decode cX11_parameter 4 = .ok (.iload_n 1, 1) := by decide +kernel
theorem dX11_parameter_5 : decode cX11_parameter 5 = .ok (.invokevirtual 99, 3) := by decide +kernel
theorem dX11_parameter_8 : decode cX11_parameter 8 = .ok (.ifCond .ne 13, 3) := by decide +kernel
theorem dX11_parameter_11 : decode cX11_parameter 11 = .ok (.new 80, 3) := by decide +kernel
theorem dX11_parameter_14 : decode cX11_parameter 14 = .ok (.dup, 1) := by decide +kernel
theorem dX11_parameter_15 : decode cX11_parameter 15 = .ok (.ldc 113, 2) := by decide +kernel
theorem dX11_parameter_17 : decode cX11_parameter 17 = .ok (.invokespecial 84, 3) := by decide +kernel
theorem dX11_parameter_20 : decode cX11_parameter 20 = .ok (.athrow, 1) := by decide +kernel
theorem dX11_parameter_21 : decode cX11_parameter 21 = .ok (.aload_n 0, 1) := by decide +kernel
theorem dX11_parameter_22 : decode cX11_parameter 22 = .ok (.getfield 19, 3) := by decide +kernel
theorem dX11_parameter_25 : decode cX11_parameter 25 = .ok (.getfield 115, 3) := by decide +kernel
theorem dX11_parameter_28 : decode cX11_parameter 28 = .ok (.iload_n 1, 1) := by decide +kernel
theorem dX11_parameter_29 : decode cX11_parameter 29 = .ok (.invokestatic 118, 3) := by decide +kernel
theorem dX11_parameter_32 : decode cX11_parameter 32 = .ok (.iadd, 1) := by decide +kernel
theorem dX11_parameter_33 : decode cX11_parameter 33 = .ok (.bipush 6, 2) := by decide +kernel
theorem dX11_parameter_35 : decode cX11_parameter 35 = .ok (.if_icmp .le 13, 3) := by decide +kernel
theorem dX11_parameter_38 : decode cX11_parameter 38 = .ok (.new 90, 3) := by decide +kernel
theorem dX11_parameter_41 : decode cX11_parameter 41 = .ok (.dup, 1) := by decide +kernel
theorem dX11_parameter_42 : decode cX11_parameter 42 = .ok (.ldc 122, 2) := by decide +kernel
theorem dX11_parameter_44 : decode cX11_parameter 44 = .ok (.invokespecial 94, 3) := by decide +kernel
theorem dX11_parameter_47 : decode cX11_parameter 47 = .ok (.athrow, 1) := by decide +kernel
theorem dX11_parameter_48 : decode cX11_parameter 48 = .ok (.aload_n 0, 1) := by decide +kernel
theorem dX11_parameter_49 : decode cX11_parameter 49 = .ok (.getfield 19, 3) := by decide +kernel
theorem dX11_parameter_52 : decode cX11_parameter 52 = .ok (.iload_n 1, 1) := by decide +kernel
theorem dX11_parameter_53 : decode cX11_parameter 53 = .ok (.invokevirtual 124, 3) := by decide +kernel
theorem dX11_parameter_56 : decode cX11_parameter 56 = .ok (.ireturn, 1) := by decide +kernel
theorem dX11_declareMethod_0 : decode cX11_declareMethod 0 = .ok (.aload_n 0, 1) := by decide +kernel
theorem dX11_declareMethod_1 : decode cX11_declareMethod 1 = .ok (.iload_n 1, 1) := by decide +kernel
theorem dX11_declareMethod_2 : decode cX11_declareMethod 2 = .ok (.iload_n 2, 1) := by decide +kernel
theorem dX11_declareMethod_3 : decode cX11_declareMethod 3 = .ok (.iload_n 3, 1) := by decide +kernel
theorem dX11_declareMethod_4 : decode cX11_declareMethod 4 = .ok (.invokevirtual 127, 3) := by decide +kernel
theorem dX11_declareMethod_7 : decode cX11_declareMethod 7 = .ok (.ifCond .ne 20, 3) := by decide +kernel
theorem dX11_declareMethod_10 : decode cX11_declareMethod 10 = .ok (.aload_n 0, 1) := by decide +kernel
theorem dX11_declareMethod_11 : decode cX11_declareMethod 11 = .ok (.getfield 19, 3) := by decide +kernel
theorem dX11_declareMethod_14 : decode cX11_declareMethod 14 = .ok (.invokevirtual 131, 3) := by decide +kernel
theorem dX11_declareMethod_17 : decode cX11_declareMethod 17 = .ok (.new 80, 3) := by decide +kernel
theorem dX11_declareMethod_20 : decode cX11_declareMethod 20 = .ok (.dup, 1) := by decide +kernel
theorem dX11_declareMethod_21 : decode cX11_declareMethod 21 = .ok (.ldc 134, 2) := by decide +kernel
theorem dX11_declareMethod_23 : decode cX11_declareMethod 23 = .ok (.invokespecial 84, 3) := by decide +kernel
theorem dX11_declareMethod_26 : decode cX11_declareMethod 26 = .ok (.athrow, 1) := by decide +kernel
theorem dX11_declareMethod_27 : decode cX11_declareMethod 27 = .ok (.aload_n 0, 1) := by decide +kernel
theorem dX11_declareMethod_28 : decode cX11_declareMethod 28 = .ok (.getfield 19, 3) := by decide +kernel
theorem dX11_declareMethod_31 : decode cX11_declareMethod 31 = .ok (.getfield 136, 3) := by decide +kernel
theorem dX11_declareMethod_34 : decode cX11_declareMethod 34 = .ok (.bipush 30, 2) := by decide +kernel
theorem dX11_declareMethod_36 : decode cX11_declareMethod 36 = .ok (.if_icmp .lt 20, 3) := by decide +kernel
theorem dX11_declareMethod_39 : decode cX11_declareMethod 39 = .ok (.aload_n 0, 1) := by decide +kernel
theorem dX11_declareMethod_40 : decode cX11_declareMethod 40 = .ok (.getfield 19, 3) := by decide +kernel
theorem dX11_declareMethod_43 : decode cX11_declareMethod 43 = .ok (.invokevirtual 131, 3) := by decide +kernel
theorem dX11_declareMethod_46 : decode cX11_declareMethod 46 = .ok (.new 90, 3) := by decide +kernel
theorem dX11_declareMethod_49 : decode cX11_declareMethod 49 = .ok (.dup, 1) := by decide +kernel
theorem dX11_declareMethod_50 : decode cX11_declareMethod 50 = .ok (.ldc 139, 2) := by decide +kernel
theorem dX11_declareMethod_52 : decode cX11_declareMethod 52 = .ok (.invokespecial 94, 3) := by decide +kernel
theorem dX11_declareMethod_55 : decode cX11_declareMethod 55 = .ok (.athrow, 1) := by decide +kernel
theorem dX11_declareMethod_56 : decode cX11_declareMethod 56 = .ok (.aload_n 0, 1) := by decide +kernel
theorem dX11_declareMethod_57 : decode cX11_declareMethod 57 = .ok (.getfield 19, 3) := by decide +kernel
theorem dX11_declareMethod_60 : decode cX11_declareMethod 60 = .ok (.iload_n 1, 1) := by decide +kernel
theorem dX11_declareMethod_61 : decode cX11_declareMethod 61 = .ok (.iload_n 2, 1) := by decide +kernel
theorem dX11_declareMethod_62 : decode cX11_declareMethod 62 = .ok (.iload_n 3, 1) := by decide +kernel
theorem dX11_declareMethod_63 : decode cX11_declareMethod 63 = .ok (.invokevirtual 141, 3) := by decide +kernel
theorem dX11_declareMethod_66 : decode cX11_declareMethod 66 = .ok (.ireturn, 1) := by decide +kernel
theorem dX11_isMethodAllowed_0 : decode cX11_isMethodAllowed 0 = .ok (.iload_n 2, 1) := by decide +kernel
theorem dX11_isMethodAllowed_1 : decode cX11_isMethodAllowed 1 = .ok (.ifCond .lt 8, 3) := by decide +kernel
theorem dX11_isMethodAllowed_4 : decode cX11_isMethodAllowed 4 = .ok (.iload_n 2, 1) := by decide +kernel
theorem dX11_isMethodAllowed_5 : decode cX11_isMethodAllowed 5 = .ok (.iconst 2, 1) := by decide +kernel
theorem dX11_isMethodAllowed_6 : decode cX11_isMethodAllowed 6 = .ok (.if_icmp .le 5, 3) := by decide +kernel
theorem dX11_isMethodAllowed_9 : decode cX11_isMethodAllowed 9 = .ok (.iconst 0, 1) := by decide +kernel
theorem dX11_isMethodAllowed_10 : decode cX11_isMethodAllowed 10 = .ok (.ireturn, 1) := by decide +kernel
theorem dX11_isMethodAllowed_11 : decode cX11_isMethodAllowed 11 = .ok (.aload_n 0, 1) := by decide +kernel
theorem dX11_isMethodAllowed_12 : decode cX11_isMethodAllowed 12 = .ok (.getfield 10, 3) := by decide +kernel
theorem dX11_isMethodAllowed_15 : decode cX11_isMethodAllowed 15 = .ok (.iload_n 1, 1) := by decide +kernel
theorem dX11_isMethodAllowed_16 : decode cX11_isMethodAllowed 16 = .ok (.invokevirtual 76, 3) := by decide +kernel
theorem dX11_isMethodAllowed_19 : decode cX11_isMethodAllowed 19 = .ok (.ifCond .ne 20, 3) := by decide +kernel
theorem dX11_isMethodAllowed_22 : decode cX11_isMethodAllowed 22 = .ok (.iload_n 2, 1) := by decide +kernel
theorem dX11_isMethodAllowed_23 : decode cX11_isMethodAllowed 23 = .ok (.ifCond .ne 14, 3) := by decide +kernel
theorem dX11_isMethodAllowed_26 : decode cX11_isMethodAllowed 26 = .ok (.aload_n 0, 1) := by decide +kernel
theorem dX11_isMethodAllowed_27 : decode cX11_isMethodAllowed 27 = .ok (.getfield 10, 3) := by decide +kernel
theorem dX11_isMethodAllowed_30 : decode cX11_isMethodAllowed 30 = .ok (.iload_n 1, 1) := by decide +kernel
theorem dX11_isMethodAllowed_31 : decode cX11_isMethodAllowed 31 = .ok (.invokevirtual 145, 3) := by decide +kernel
theorem dX11_isMethodAllowed_34 : decode cX11_isMethodAllowed 34 = .ok (.ifCond .ne 5, 3) := by decide +kernel
theorem dX11_isMethodAllowed_37 : decode cX11_isMethodAllowed 37 = .ok (.iconst 0, 1) := by decide +kernel
theorem dX11_isMethodAllowed_38 : decode cX11_isMethodAllowed 38 = .ok (.ireturn, 1) := by decide +kernel
theorem dX11_isMethodAllowed_39 : decode cX11_isMethodAllowed 39 = .ok (.iload_n 2, 1) := by decide +kernel
theorem dX11_isMethodAllowed_40 : decode cX11_isMethodAllowed 40 = .ok (.iconst 2, 1) := by decide +kernel
theorem dX11_isMethodAllowed_41 : decode cX11_isMethodAllowed 41 = .ok (.if_icmp .ne 14, 3) := by decide +kernel
theorem dX11_isMethodAllowed_44 : decode cX11_isMethodAllowed 44 = .ok (.iload_n 3, 1) := by decide +kernel
theorem dX11_isMethodAllowed_45 : decode cX11_isMethodAllowed 45 = .ok (.iconst (-1), 1) := by decide +kernel
theorem dX11_isMethodAllowed_46 : decode cX11_isMethodAllowed 46 = .ok (.if_icmp .ne 7, 3) := by decide +kernel
theorem dX11_isMethodAllowed_49 : decode cX11_isMethodAllowed 49 = .ok (.iconst 1, 1) := by decide +kernel
theorem dX11_isMethodAllowed_50 : decode cX11_isMethodAllowed 50 = .ok (.goto 4, 3) := by decide +kernel
theorem dX11_isMethodAllowed_53 : decode cX11_isMethodAllowed 53 = .ok (.iconst 0, 1) := by decide +kernel
theorem dX11_isMethodAllowed_54 : decode cX11_isMethodAllowed 54 = .ok (.ireturn, 1) := by decide +kernel
theorem dX11_isMethodAllowed_55 : decode cX11_isMethodAllowed 55 = .ok (.iload_n 3, 1) := by decide +kernel
theorem dX11_isMethodAllowed_56 : decode cX11_isMethodAllowed 56 = .ok (.iconst (-1), 1) := by decide +kernel
theorem dX11_isMethodAllowed_57 : decode cX11_isMethodAllowed 57 = .ok (.if_icmp .eq 14, 3) := by decide +kernel
theorem dX11_isMethodAllowed_60 : decode cX11_isMethodAllowed 60 = .ok (.aload_n 0, 1) := by decide +kernel
theorem dX11_isMethodAllowed_61 : decode cX11_isMethodAllowed 61 = .ok (.getfield 10, 3) := by decide +kernel
theorem dX11_isMethodAllowed_64 : decode cX11_isMethodAllowed 64 = .ok (.iload_n 3, 1) := by decide +kernel
theorem dX11_isMethodAllowed_65 : decode cX11_isMethodAllowed 65 = .ok (.invokevirtual 99, 3) := by decide +kernel
theorem dX11_isMethodAllowed_68 : decode cX11_isMethodAllowed 68 = .ok (.ifCond .eq 7, 3) := by decide +kernel
theorem dX11_isMethodAllowed_71 : decode cX11_isMethodAllowed 71 = .ok (.iconst 1, 1) := by decide +kernel
theorem dX11_isMethodAllowed_72 : decode cX11_isMethodAllowed 72 = .ok (.goto 4, 3) := by decide +kernel
theorem dX11_isMethodAllowed_75 : decode cX11_isMethodAllowed 75 = .ok (.iconst 0, 1) := by decide +kernel
theorem dX11_isMethodAllowed_76 : decode cX11_isMethodAllowed 76 = .ok (.ireturn, 1) := by decide +kernel
theorem dX11_begin_0 : decode cX11_begin 0 = .ok (.aload_n 0, 1) := by decide +kernel
theorem dX11_begin_1 : decode cX11_begin 1 = .ok (.getfield 19, 3) := by decide +kernel
theorem dX11_begin_4 : decode cX11_begin 4 = .ok (.iload_n 1, 1) := by decide +kernel
theorem dX11_begin_5 : decode cX11_begin 5 = .ok (.invokevirtual 164, 3) := by decide +kernel
theorem dX11_begin_8 : decode cX11_begin 8 = .ok (.ifCond .ne 13, 3) := by decide +kernel
theorem dX11_begin_11 : decode cX11_begin 11 = .ok (.new 167, 3) := by decide +kernel
theorem dX11_begin_14 : decode cX11_begin 14 = .ok (.dup, 1) := by decide +kernel
theorem dX11_begin_15 : decode cX11_begin 15 = .ok (.ldc 169, 2) := by decide +kernel
theorem dX11_begin_17 : decode cX11_begin 17 = .ok (.invokespecial 171, 3) := by decide +kernel
theorem dX11_begin_20 : decode cX11_begin 20 = .ok (.athrow, 1) := by decide +kernel
theorem dX11_begin_21 : decode cX11_begin 21 = .ok (.iload_n 2, 1) := by decide +kernel
theorem dX11_begin_22 : decode cX11_begin 22 = .ok (.ifCond .lt 38, 3) := by decide +kernel
theorem dX11_begin_25 : decode cX11_begin 25 = .ok (.iload_n 2, 1) := by decide +kernel
theorem dX11_begin_26 : decode cX11_begin 26 = .ok (.bipush 12, 2) := by decide +kernel
theorem dX11_begin_28 : decode cX11_begin 28 = .ok (.if_icmp .gt 32, 3) := by decide +kernel
theorem dX11_begin_31 : decode cX11_begin 31 = .ok (.iload_n 3, 1) := by decide +kernel
theorem dX11_begin_32 : decode cX11_begin 32 = .ok (.ifCond .lt 28, 3) := by decide +kernel
theorem dX11_begin_35 : decode cX11_begin 35 = .ok (.iload_n 3, 1) := by decide +kernel
theorem dX11_begin_36 : decode cX11_begin 36 = .ok (.bipush 12, 2) := by decide +kernel
theorem dX11_begin_38 : decode cX11_begin 38 = .ok (.if_icmp .gt 22, 3) := by decide +kernel
theorem dX11_begin_41 : decode cX11_begin 41 = .ok (.aload_n 0, 1) := by decide +kernel
theorem dX11_begin_42 : decode cX11_begin 42 = .ok (.getfield 10, 3) := by decide +kernel
theorem dX11_begin_45 : decode cX11_begin 45 = .ok (.aload_n 0, 1) := by decide +kernel
theorem dX11_begin_46 : decode cX11_begin 46 = .ok (.getfield 19, 3) := by decide +kernel
theorem dX11_begin_49 : decode cX11_begin 49 = .ok (.getfield 172, 3) := by decide +kernel
theorem dX11_begin_52 : decode cX11_begin 52 = .ok (.iload_n 1, 1) := by decide +kernel
theorem dX11_begin_53 : decode cX11_begin 53 = .ok (.iaload, 1) := by decide +kernel
theorem dX11_begin_54 : decode cX11_begin 54 = .ok (.invokevirtual 145, 3) := by decide +kernel
theorem dX11_begin_57 : decode cX11_begin 57 = .ok (.ifCond .eq 13, 3) := by decide +kernel
theorem dX11_begin_60 : decode cX11_begin 60 = .ok (.new 80, 3) := by decide +kernel
theorem dX11_begin_63 : decode cX11_begin 63 = .ok (.dup, 1) := by decide +kernel
theorem dX11_begin_64 : decode cX11_begin 64 = .ok (.ldc 176, 2) := by decide +kernel
theorem dX11_begin_66 : decode cX11_begin 66 = .ok (.invokespecial 84, 3) := by decide +kernel
theorem dX11_begin_69 : decode cX11_begin 69 = .ok (.athrow, 1) := by decide +kernel
theorem dX11_begin_70 : decode cX11_begin 70 = .ok (.aload_n 0, 1) := by decide +kernel
theorem dX11_begin_71 : decode cX11_begin 71 = .ok (.getfield 26, 3) := by decide +kernel
theorem dX11_begin_74 : decode cX11_begin 74 = .ok (.iload_n 1, 1) := by decide +kernel
theorem dX11_begin_75 : decode cX11_begin 75 = .ok (.iload_n 2, 1) := by decide +kernel
theorem dX11_begin_76 : decode cX11_begin 76 = .ok (.iload_n 3, 1) := by decide +kernel
theorem dX11_begin_77 : decode cX11_begin 77 = .ok (.invokevirtual 178, 3) := by decide +kernel
theorem dX11_begin_80 : decode cX11_begin 80 = .ok (.aload_n 0, 1) := by decide +kernel
theorem dX11_begin_81 : decode cX11_begin 81 = .ok (.getfield 47, 3) := by decide +kernel
theorem dX11_begin_84 : decode cX11_begin 84 = .ok (.invokevirtual 182, 3) := by decide +kernel
theorem dX11_begin_87 : decode cX11_begin 87 = .ok (.aload_n 0, 1) := by decide +kernel
theorem dX11_begin_88 : decode cX11_begin 88 = .ok (.getfield 51, 3) := by decide +kernel
theorem dX11_begin_91 : decode cX11_begin 91 = .ok (.invokevirtual 182, 3) := by decide +kernel
theorem dX11_begin_94 : decode cX11_begin 94 = .ok (.aload_n 0, 1) := by decide +kernel
theorem dX11_begin_95 : decode cX11_begin 95 = .ok (.getfield 19, 3) := by decide +kernel
theorem dX11_begin_98 : decode cX11_begin 98 = .ok (.iload_n 1, 1) := by decide +kernel
theorem dX11_begin_99 : decode cX11_begin 99 = .ok (.invokevirtual 183, 3) := by decide +kernel
theorem dX11_begin_102 : decode cX11_begin 102 = .ok (.ireturn, 1) := by decide +kernel
theorem dX11_emit_0 : decode cX11_emit 0 = .ok (.iload_n 1, 1) := by decide +kernel
theorem dX11_emit_1 : decode cX11_emit 1 = .ok (.ifCond .lt 9, 3) := by decide +kernel
theorem dX11_emit_4 : decode cX11_emit 4 = .ok (.iload_n 1, 1) := by decide +kernel
theorem dX11_emit_5 : decode cX11_emit 5 = .ok (.bipush 45, 2) := by decide +kernel
theorem dX11_emit_7 : decode cX11_emit 7 = .ok (.if_icmp .le 13, 3) := by decide +kernel
theorem dX11_emit_10 : decode cX11_emit 10 = .ok (.new 80, 3) := by decide +kernel
theorem dX11_emit_13 : decode cX11_emit 13 = .ok (.dup, 1) := by decide +kernel
theorem dX11_emit_14 : decode cX11_emit 14 = .ok (.ldc 188, 2) := by decide +kernel
theorem dX11_emit_16 : decode cX11_emit 16 = .ok (.invokespecial 84, 3) := by decide +kernel
theorem dX11_emit_19 : decode cX11_emit 19 = .ok (.athrow, 1) := by decide +kernel
theorem dX11_emit_20 : decode cX11_emit 20 = .ok (.aload_n 0, 1) := by decide +kernel
theorem dX11_emit_21 : decode cX11_emit 21 = .ok (.getfield 26, 3) := by decide +kernel
theorem dX11_emit_24 : decode cX11_emit 24 = .ok (.getfield 190, 3) := by decide +kernel
theorem dX11_emit_27 : decode cX11_emit 27 = .ok (.ifCond .eq 15, 3) := by decide +kernel
theorem dX11_emit_30 : decode cX11_emit 30 = .ok (.aload_n 0, 1) := by decide +kernel
theorem dX11_emit_31 : decode cX11_emit 31 = .ok (.getfield 26, 3) := by decide +kernel
theorem dX11_emit_34 : decode cX11_emit 34 = .ok (.getfield 194, 3) := by decide +kernel
theorem dX11_emit_37 : decode cX11_emit 37 = .ok (.bipush 100, 2) := by decide +kernel
theorem dX11_emit_39 : decode cX11_emit 39 = .ok (.if_icmp .lt 13, 3) := by decide +kernel
theorem dX11_emit_42 : decode cX11_emit 42 = .ok (.new 90, 3) := by decide +kernel
theorem dX11_emit_45 : decode cX11_emit 45 = .ok (.dup, 1) := by decide +kernel
theorem dX11_emit_46 : decode cX11_emit 46 = .ok (.ldc 195, 2) := by decide +kernel
theorem dX11_emit_48 : decode cX11_emit 48 = .ok (.invokespecial 94, 3) := by decide +kernel
theorem dX11_emit_51 : decode cX11_emit 51 = .ok (.athrow, 1) := by decide +kernel
theorem dX11_emit_52 : decode cX11_emit 52 = .ok (.aload_n 0, 1) := by decide +kernel
theorem dX11_emit_53 : decode cX11_emit 53 = .ok (.getfield 47, 3) := by decide +kernel
theorem dX11_emit_56 : decode cX11_emit 56 = .ok (.invokevirtual 182, 3) := by decide +kernel
theorem dX11_emit_59 : decode cX11_emit 59 = .ok (.aload_n 0, 1) := by decide +kernel
theorem dX11_emit_60 : decode cX11_emit 60 = .ok (.getfield 26, 3) := by decide +kernel
theorem dX11_emit_63 : decode cX11_emit 63 = .ok (.iload_n 1, 1) := by decide +kernel
theorem dX11_emit_64 : decode cX11_emit 64 = .ok (.iload_n 2, 1) := by decide +kernel
theorem dX11_emit_65 : decode cX11_emit 65 = .ok (.invokevirtual 197, 3) := by decide +kernel
theorem dX11_emit_68 : decode cX11_emit 68 = .ok (.ireturn, 1) := by decide +kernel
theorem dX11_addHandler_0 : decode cX11_addHandler 0 = .ok (.aload_n 0, 1) := by decide +kernel
theorem dX11_addHandler_1 : decode cX11_addHandler 1 = .ok (.getfield 10, 3) := by decide +kernel
theorem dX11_addHandler_4 : decode cX11_addHandler 4 = .ok (.iload 4, 2) := by decide +kernel
theorem dX11_addHandler_6 : decode cX11_addHandler 6 = .ok (.invokevirtual 76, 3) := by decide +kernel
theorem dX11_addHandler_9 : decode cX11_addHandler 9 = .ok (.ifCond .ne 13, 3) := by decide +kernel
theorem dX11_addHandler_12 : decode cX11_addHandler 12 = .ok (.new 80, 3) := by decide +kernel
theorem dX11_addHandler_15 : decode cX11_addHandler 15 = .ok (.dup, 1) := by decide +kernel
theorem dX11_addHandler_16 : decode cX11_addHandler 16 = .ok (.ldc 200, 2) := by decide +kernel
theorem dX11_addHandler_18 : decode cX11_addHandler 18 = .ok (.invokespecial 84, 3) := by decide +kernel
theorem dX11_addHandler_21 : decode cX11_addHandler 21 = .ok (.athrow, 1) := by decide +kernel
theorem dX11_addHandler_22 : decode cX11_addHandler 22 = .ok (.aload_n 0, 1) := by decide +kernel
theorem dX11_addHandler_23 : decode cX11_addHandler 23 = .ok (.getfield 26, 3) := by decide +kernel
theorem dX11_addHandler_26 : decode cX11_addHandler 26 = .ok (.getfield 190, 3) := by decide +kernel
theorem dX11_addHandler_29 : decode cX11_addHandler 29 = .ok (.ifCond .eq 15, 3) := by decide +kernel
theorem dX11_addHandler_32 : decode cX11_addHandler 32 = .ok (.aload_n 0, 1) := by decide +kernel
theorem dX11_addHandler_33 : decode cX11_addHandler 33 = .ok (.getfield 26, 3) := by decide +kernel
theorem dX11_addHandler_36 : decode cX11_addHandler 36 = .ok (.getfield 202, 3) := by decide +kernel
theorem dX11_addHandler_39 : decode cX11_addHandler 39 = .ok (.bipush 10, 2) := by decide +kernel
theorem dX11_addHandler_41 : decode cX11_addHandler 41 = .ok (.if_icmp .lt 13, 3) := by decide +kernel
theorem dX11_addHandler_44 : decode cX11_addHandler 44 = .ok (.new 90, 3) := by decide +kernel
theorem dX11_addHandler_47 : decode cX11_addHandler 47 = .ok (.dup, 1) := by decide +kernel
theorem dX11_addHandler_48 : decode cX11_addHandler 48 = .ok (.ldc 205, 2) := by decide +kernel
theorem dX11_addHandler_50 : decode cX11_addHandler 50 = .ok (.invokespecial 94, 3) := by decide +kernel
theorem dX11_addHandler_53 : decode cX11_addHandler 53 = .ok (.athrow, 1) := by decide +kernel
theorem dX11_addHandler_54 : decode cX11_addHandler 54 = .ok (.aload_n 0, 1) := by decide +kernel
theorem dX11_addHandler_55 : decode cX11_addHandler 55 = .ok (.getfield 47, 3) := by decide +kernel
theorem dX11_addHandler_58 : decode cX11_addHandler 58 = .ok (.invokevirtual 182, 3) := by decide +kernel
theorem dX11_addHandler_61 : decode cX11_addHandler 61 = .ok (.aload_n 0, 1) := by decide +kernel
theorem dX11_addHandler_62 : decode cX11_addHandler 62 = .ok (.getfield 26, 3) := by decide +kernel
theorem dX11_addHandler_65 : decode cX11_addHandler 65 = .ok (.iload_n 1, 1) := by decide +kernel
theorem dX11_addHandler_66 : decode cX11_addHandler 66 = .ok (.iload_n 2, 1) := by decide +kernel
theorem dX11_addHandler_67 : decode cX11_addHandler 67 = .ok (.iload_n 3, 1) := by decide +kernel
theorem dX11_addHandler_68 : decode cX11_addHandler 68 = .ok (.iload 4, 2) := by decide +kernel
theorem dX11_addHandler_70 : decode cX11_addHandler 70 = .ok (.invokevirtual 207, 3) := by decide +kernel
theorem dX11_addHandler_73 : decode cX11_addHandler 73 = .ok (.ireturn, 1) := by decide +kernel
theorem dX11_adoptFrames_0 : decode cX11_adoptFrames 0 = .ok (.aload_n 0, 1) := by decide +kernel
theorem dX11_adoptFrames_1 : decode cX11_adoptFrames 1 = .ok (.getfield 47, 3) := by decide +kernel
theorem dX11_adoptFrames_4 : decode cX11_adoptFrames 4 = .ok (.getfield 248, 3) := by decide +kernel
theorem dX11_adoptFrames_7 : decode cX11_adoptFrames 7 = .ok (.ifCond .ne 13, 3) := by decide +kernel
theorem dX11_adoptFrames_10 : decode cX11_adoptFrames 10 = .ok (.new 90, 3) := by decide +kernel
theorem dX11_adoptFrames_13 : decode cX11_adoptFrames 13 = .ok (.dup, 1) := by decide +kernel
theorem dX11_adoptFrames_14 : decode cX11_adoptFrames 14 = .ok (.ldc 249, 2) := by decide +kernel
theorem dX11_adoptFrames_16 : decode cX11_adoptFrames 16 = .ok (.invokespecial 94, 3) := by decide +kernel
theorem dX11_adoptFrames_19 : decode cX11_adoptFrames 19 = .ok (.athrow, 1) := by decide +kernel
theorem dX11_adoptFrames_20 : decode cX11_adoptFrames 20 = .ok (.aload_n 0, 1) := by decide +kernel
theorem dX11_adoptFrames_21 : decode cX11_adoptFrames 21 = .ok (.getfield 51, 3) := by decide +kernel
theorem dX11_adoptFrames_24 : decode cX11_adoptFrames 24 = .ok (.invokevirtual 182, 3) := by decide +kernel
theorem dX11_adoptFrames_27 : decode cX11_adoptFrames 27 = .ok (.aload_n 0, 1) := by decide +kernel
theorem dX11_adoptFrames_28 : decode cX11_adoptFrames 28 = .ok (.invokevirtual 251, 3) := by decide +kernel
theorem dX11_adoptFrames_31 : decode cX11_adoptFrames 31 = .ok (.aload_n 0, 1) := by decide +kernel
theorem dX11_adoptFrames_32 : decode cX11_adoptFrames 32 = .ok (.invokevirtual 254, 3) := by decide +kernel
theorem dX11_adoptFrames_35 : decode cX11_adoptFrames 35 = .ok (.aload_n 0, 1) := by decide +kernel
theorem dX11_adoptFrames_36 : decode cX11_adoptFrames 36 = .ok (.invokevirtual 257, 3) := by decide +kernel
theorem dX11_adoptFrames_39 : decode cX11_adoptFrames 39 = .ok (.aload_n 0, 1) := by decide +kernel
theorem dX11_adoptFrames_40 : decode cX11_adoptFrames 40 = .ok (.getfield 51, 3) := by decide +kernel
theorem dX11_adoptFrames_43 : decode cX11_adoptFrames 43 = .ok (.getfield 248, 3) := by decide +kernel
theorem dX11_adoptFrames_46 : decode cX11_adoptFrames 46 = .ok (.ireturn, 1) := by decide +kernel
theorem dX11_adoptAtJumps_0 : decode cX11_adoptAtJumps 0 = .ok (.iconst 0, 1) := by decide +kernel
theorem dX11_adoptAtJumps_1 : decode cX11_adoptAtJumps 1 = .ok (.istore_n 1, 1) := by decide +kernel
theorem dX11_adoptAtJumps_2 : decode cX11_adoptAtJumps 2 = .ok (.iload_n 1, 1) := by decide +kernel
theorem dX11_adoptAtJumps_3 : decode cX11_adoptAtJumps 3 = .ok (.aload_n 0, 1) := by decide +kernel
theorem dX11_adoptAtJumps_4 : decode cX11_adoptAtJumps 4 = .ok (.getfield 26, 3) := by decide +kernel
theorem dX11_adoptAtJumps_7 : decode cX11_adoptAtJumps 7 = .ok (.getfield 194, 3) := by decide +kernel
theorem dX11_adoptAtJumps_10 : decode cX11_adoptAtJumps 10 = .ok (.if_icmp .ge 48, 3) := by decide +kernel
theorem dX11_adoptAtJumps_13 : decode cX11_adoptAtJumps 13 = .ok (.aload_n 0, 1) := by decide +kernel
theorem dX11_adoptAtJumps_14 : decode cX11_adoptAtJumps 14 = .ok (.getfield 47, 3) := by decide +kernel
theorem dX11_adoptAtJumps_17 : decode cX11_adoptAtJumps 17 = .ok (.iload_n 1, 1) := by decide +kernel
theorem dX11_adoptAtJumps_18 : decode cX11_adoptAtJumps 18 = .ok (.invokevirtual 260, 3) := by decide +kernel
theorem dX11_adoptAtJumps_21 : decode cX11_adoptAtJumps 21 = .ok (.ifCond .eq 31, 3) := by decide +kernel
theorem dX11_adoptAtJumps_24 : decode cX11_adoptAtJumps 24 = .ok (.aload_n 0, 1) := by decide +kernel
theorem dX11_adoptAtJumps_25 : decode cX11_adoptAtJumps 25 = .ok (.getfield 26, 3) := by decide +kernel
theorem dX11_adoptAtJumps_28 : decode cX11_adoptAtJumps 28 = .ok (.getfield 263, 3) := by decide +kernel
theorem dX11_adoptAtJumps_31 : decode cX11_adoptAtJumps 31 = .ok (.iload_n 1, 1) := by decide +kernel
theorem dX11_adoptAtJumps_32 : decode cX11_adoptAtJumps 32 = .ok (.iaload, 1) := by decide +kernel
theorem dX11_adoptAtJumps_33 : decode cX11_adoptAtJumps 33 = .ok (.invokestatic 266, 3) := by decide +kernel
theorem dX11_adoptAtJumps_36 : decode cX11_adoptAtJumps 36 = .ok (.ifCond .eq 16, 3) := by decide +kernel
theorem dX11_adoptAtJumps_39 : decode cX11_adoptAtJumps 39 = .ok (.aload_n 0, 1) := by decide +kernel
theorem dX11_adoptAtJumps_40 : decode cX11_adoptAtJumps 40 = .ok (.aload_n 0, 1) := by decide +kernel
theorem dX11_adoptAtJumps_41 : decode cX11_adoptAtJumps 41 = .ok (.getfield 26, 3) := by decide +kernel
theorem dX11_adoptAtJumps_44 : decode cX11_adoptAtJumps 44 = .ok (.getfield 269, 3) := by decide +kernel
theorem dX11_adoptAtJumps_47 : decode cX11_adoptAtJumps 47 = .ok (.iload_n 1, 1) := by decide +kernel
theorem dX11_adoptAtJumps_48 : decode cX11_adoptAtJumps 48 = .ok (.iaload, 1) := by decide +kernel
theorem dX11_adoptAtJumps_49 : decode cX11_adoptAtJumps 49 = .ok (.invokevirtual 272, 3) := by decide +kernel
theorem dX11_adoptAtJumps_52 : decode cX11_adoptAtJumps 52 = .ok (.iinc 1 1, 3) := by decide +kernel
theorem dX11_adoptAtJumps_55 : decode cX11_adoptAtJumps 55 = .ok (.goto (-53), 3) := by decide +kernel
theorem dX11_adoptAtJumps_58 : decode cX11_adoptAtJumps 58 = .ok (.return_, 1) := by decide +kernel
theorem dX11_adoptAtHandlers_0 : decode cX11_adoptAtHandlers 0 = .ok (.iconst 0, 1) := by decide +kernel
theorem dX11_adoptAtHandlers_1 : decode cX11_adoptAtHandlers 1 = .ok (.istore_n 1, 1) := by decide +kernel
theorem dX11_adoptAtHandlers_2 : decode cX11_adoptAtHandlers 2 = .ok (.iload_n 1, 1) := by decide +kernel
theorem dX11_adoptAtHandlers_3 : decode cX11_adoptAtHandlers 3 = .ok (.aload_n 0, 1) := by decide +kernel
theorem dX11_adoptAtHandlers_4 : decode cX11_adoptAtHandlers 4 = .ok (.getfield 26, 3) := by decide +kernel
theorem dX11_adoptAtHandlers_7 : decode cX11_adoptAtHandlers 7 = .ok (.getfield 202, 3) := by decide +kernel
theorem dX11_adoptAtHandlers_10 : decode cX11_adoptAtHandlers 10 = .ok (.if_icmp .ge 64, 3) := by decide +kernel
theorem dX11_adoptAtHandlers_13 : decode cX11_adoptAtHandlers 13 = .ok (.iconst 0, 1) := by decide +kernel
theorem dX11_adoptAtHandlers_14 : decode cX11_adoptAtHandlers 14 = .ok (.istore_n 2, 1) := by decide +kernel
theorem dX11_adoptAtHandlers_15 : decode cX11_adoptAtHandlers 15 = .ok (.iload_n 2, 1) := by decide +kernel
theorem dX11_adoptAtHandlers_16 : decode cX11_adoptAtHandlers 16 = .ok (.aload_n 0, 1) := by decide +kernel
theorem dX11_adoptAtHandlers_17 : decode cX11_adoptAtHandlers 17 = .ok (.getfield 26, 3) := by decide +kernel
theorem dX11_adoptAtHandlers_20 : decode cX11_adoptAtHandlers 20 = .ok (.getfield 194, 3) := by decide +kernel
theorem dX11_adoptAtHandlers_23 : decode cX11_adoptAtHandlers 23 = .ok (.if_icmp .ge 45, 3) := by decide +kernel
theorem dX11_adoptAtHandlers_26 : decode cX11_adoptAtHandlers 26 = .ok (.aload_n 0, 1) := by decide +kernel
theorem dX11_adoptAtHandlers_27 : decode cX11_adoptAtHandlers 27 = .ok (.getfield 26, 3) := by decide +kernel
theorem dX11_adoptAtHandlers_30 : decode cX11_adoptAtHandlers 30 = .ok (.iload_n 1, 1) := by decide +kernel
theorem dX11_adoptAtHandlers_31 : decode cX11_adoptAtHandlers 31 = .ok (.iload_n 2, 1) := by decide +kernel
theorem dX11_adoptAtHandlers_32 : decode cX11_adoptAtHandlers 32 = .ok (.invokevirtual 276, 3) := by decide +kernel
theorem dX11_adoptAtHandlers_35 : decode cX11_adoptAtHandlers 35 = .ok (.ifCond .eq 27, 3) := by decide +kernel
theorem dX11_adoptAtHandlers_38 : decode cX11_adoptAtHandlers 38 = .ok (.aload_n 0, 1) := by decide +kernel
theorem dX11_adoptAtHandlers_39 : decode cX11_adoptAtHandlers 39 = .ok (.getfield 47, 3) := by decide +kernel
theorem dX11_adoptAtHandlers_42 : decode cX11_adoptAtHandlers 42 = .ok (.iload_n 2, 1) := by decide +kernel
theorem dX11_adoptAtHandlers_43 : decode cX11_adoptAtHandlers 43 = .ok (.invokevirtual 260, 3) := by decide +kernel
theorem dX11_adoptAtHandlers_46 : decode cX11_adoptAtHandlers 46 = .ok (.ifCond .eq 16, 3) := by decide +kernel
theorem dX11_adoptAtHandlers_49 : decode cX11_adoptAtHandlers 49 = .ok (.aload_n 0, 1) := by decide +kernel
theorem dX11_adoptAtHandlers_50 : decode cX11_adoptAtHandlers 50 = .ok (.aload_n 0, 1) := by decide +kernel
theorem dX11_adoptAtHandlers_51 : decode cX11_adoptAtHandlers 51 = .ok (.getfield 26, 3) := by decide +kernel
theorem dX11_adoptAtHandlers_54 : decode cX11_adoptAtHandlers 54 = .ok (.getfield 279, 3) := by decide +kernel
theorem dX11_adoptAtHandlers_57 : decode cX11_adoptAtHandlers 57 = .ok (.iload_n 1, 1) := by decide +kernel
theorem dX11_adoptAtHandlers_58 : decode cX11_adoptAtHandlers 58 = .ok (.iaload, 1) := by decide +kernel
theorem dX11_adoptAtHandlers_59 : decode cX11_adoptAtHandlers 59 = .ok (.invokevirtual 272, 3) := by decide +kernel
theorem dX11_adoptAtHandlers_62 : decode cX11_adoptAtHandlers 62 = .ok (.iinc 2 1, 3) := by decide +kernel
theorem dX11_adoptAtHandlers_65 : decode cX11_adoptAtHandlers 65 = .ok (.goto (-50), 3) := by decide +kernel
theorem dX11_adoptAtHandlers_68 : decode cX11_adoptAtHandlers 68 = .ok (.iinc 1 1, 3) := by decide +kernel
theorem dX11_adoptAtHandlers_71 : decode cX11_adoptAtHandlers 71 = .ok (.goto (-69), 3) := by decide +kernel
theorem dX11_adoptAtHandlers_74 : decode cX11_adoptAtHandlers 74 = .ok (.return_, 1) := by decide +kernel
theorem dX11_adoptBehindEnds_0 : decode cX11_adoptBehindEnds 0 = .ok (.iconst 1, 1) := by decide +kernel
theorem dX11_adoptBehindEnds_1 : decode cX11_adoptBehindEnds 1 = .ok (.istore_n 1, 1) := by decide +kernel
theorem dX11_adoptBehindEnds_2 : decode cX11_adoptBehindEnds 2 = .ok (.iload_n 1, 1) := by decide +kernel
theorem dX11_adoptBehindEnds_3 : decode cX11_adoptBehindEnds 3 = .ok (.aload_n 0, 1) := by decide +kernel
theorem dX11_adoptBehindEnds_4 : decode cX11_adoptBehindEnds 4 = .ok (.getfield 26, 3) := by decide +kernel
theorem dX11_adoptBehindEnds_7 : decode cX11_adoptBehindEnds 7 = .ok (.getfield 194, 3) := by decide +kernel
theorem dX11_adoptBehindEnds_10 : decode cX11_adoptBehindEnds 10 = .ok (.if_icmp .ge 31, 3) := by decide +kernel
theorem dX11_adoptBehindEnds_13 : decode cX11_adoptBehindEnds 13 = .ok (.aload_n 0, 1) := by decide +kernel
theorem dX11_adoptBehindEnds_14 : decode cX11_adoptBehindEnds 14 = .ok (.getfield 26, 3) := by decide +kernel
theorem dX11_adoptBehindEnds_17 : decode cX11_adoptBehindEnds 17 = .ok (.getfield 263, 3) := by decide +kernel
theorem dX11_adoptBehindEnds_20 : decode cX11_adoptBehindEnds 20 = .ok (.iload_n 1, 1) := by decide +kernel
theorem dX11_adoptBehindEnds_21 : decode cX11_adoptBehindEnds 21 = .ok (.iconst 1, 1) := by decide +kernel
theorem dX11_adoptBehindEnds_22 : decode cX11_adoptBehindEnds 22 = .ok (.isub, 1) := by decide +kernel
theorem dX11_adoptBehindEnds_23 : decode cX11_adoptBehindEnds 23 = .ok (.iaload, 1) := by decide +kernel
theorem dX11_adoptBehindEnds_24 : decode cX11_adoptBehindEnds 24 = .ok (.invokestatic 282, 3) := by decide +kernel
theorem dX11_adoptBehindEnds_27 : decode cX11_adoptBehindEnds 27 = .ok (.ifCond .ne 8, 3) := by decide +kernel
theorem dX11_adoptBehindEnds_30 : decode cX11_adoptBehindEnds 30 = .ok (.aload_n 0, 1) := by decide +kernel
theorem dX11_adoptBehindEnds_31 : decode cX11_adoptBehindEnds 31 = .ok (.iload_n 1, 1) := by decide +kernel
theorem dX11_adoptBehindEnds_32 : decode cX11_adoptBehindEnds 32 = .ok (.invokevirtual 272, 3) := by decide +kernel
theorem dX11_adoptBehindEnds_35 : decode cX11_adoptBehindEnds 35 = .ok (.iinc 1 1, 3) := by decide +kernel
theorem dX11_adoptBehindEnds_38 : decode cX11_adoptBehindEnds 38 = .ok (.goto (-36), 3) := by decide +kernel
theorem dX11_adoptBehindEnds_41 : decode cX11_adoptBehindEnds 41 = .ok (.return_, 1) := by decide +kernel
theorem dX11_adoptAt_0 : decode cX11_adoptAt 0 = .ok (.aload_n 0, 1) := by decide +kernel
theorem dX11_adoptAt_1 : decode cX11_adoptAt 1 = .ok (.getfield 47, 3) := by decide +kernel
theorem dX11_adoptAt_4 : decode cX11_adoptAt 4 = .ok (.iload_n 1, 1) := by decide +kernel
theorem dX11_adoptAt_5 : decode cX11_adoptAt 5 = .ok (.invokevirtual 260, 3) := by decide +kernel
theorem dX11_adoptAt_8 : decode cX11_adoptAt 8 = .ok (.ifCond .eq 20, 3) := by decide +kernel
theorem dX11_adoptAt_11 : decode cX11_adoptAt 11 = .ok (.aload_n 0, 1) := by decide +kernel
theorem dX11_adoptAt_12 : decode cX11_adoptAt 12 = .ok (.getfield 51, 3) := by decide +kernel
theorem dX11_adoptAt_15 : decode cX11_adoptAt 15 = .ok (.iload_n 1, 1) := by decide +kernel
theorem dX11_adoptAt_16 : decode cX11_adoptAt 16 = .ok (.aload_n 0, 1) := by decide +kernel
theorem dX11_adoptAt_17 : decode cX11_adoptAt 17 = .ok (.getfield 47, 3) := by decide +kernel
theorem dX11_adoptAt_20 : decode cX11_adoptAt 20 = .ok (.getfield 285, 3) := by decide +kernel
theorem dX11_adoptAt_23 : decode cX11_adoptAt 23 = .ok (.iload_n 1, 1) := by decide +kernel
theorem dX11_adoptAt_24 : decode cX11_adoptAt 24 = .ok (.aaload, 1) := by decide +kernel
theorem dX11_adoptAt_25 : decode cX11_adoptAt 25 = .ok (.invokevirtual 244, 3) := by decide +kernel
theorem dX11_adoptAt_28 : decode cX11_adoptAt 28 = .ok (.return_, 1) := by decide +kernel
theorem dX11_infer_0 : decode cX11_infer 0 = .ok (.aload_n 0, 1) := by decide +kernel
theorem dX11_infer_1 : decode cX11_infer 1 = .ok (.invokevirtual 289, 3) := by decide +kernel
theorem dX11_infer_4 : decode cX11_infer 4 = .ok (.aload_n 0, 1) := by decide +kernel
theorem dX11_infer_5 : decode cX11_infer 5 = .ok (.getfield 59, 3) := by decide +kernel
theorem dX11_infer_8 : decode cX11_infer 8 = .ok (.invokevirtual 292, 3) := by decide +kernel
theorem dX11_infer_11 : decode cX11_infer 11 = .ok (.istore_n 1, 1) := by decide +kernel
theorem dX11_infer_12 : decode cX11_infer 12 = .ok (.aload_n 0, 1) := by decide +kernel
theorem dX11_infer_13 : decode cX11_infer 13 = .ok (.aload_n 0, 1) := by decide +kernel
theorem dX11_infer_14 : decode cX11_infer 14 = .ok (.getfield 59, 3) := by decide +kernel
theorem dX11_infer_17 : decode cX11_infer 17 = .ok (.getfield 296, 3) := by decide +kernel
theorem dX11_infer_20 : decode cX11_infer 20 = .ok (.putfield 70, 3) := by decide +kernel
theorem dX11_infer_23 : decode cX11_infer 23 = .ok (.aload_n 0, 1) := by decide +kernel
theorem dX11_infer_24 : decode cX11_infer 24 = .ok (.aload_n 0, 1) := by decide +kernel
theorem dX11_infer_25 : decode cX11_infer 25 = .ok (.getfield 59, 3) := by decide +kernel
theorem dX11_infer_28 : decode cX11_infer 28 = .ok (.getfield 299, 3) := by decide +kernel
theorem dX11_infer_31 : decode cX11_infer 31 = .ok (.putfield 73, 3) := by decide +kernel
theorem dX11_infer_34 : decode cX11_infer 34 = .ok (.iload_n 1, 1) := by decide +kernel
theorem dX11_infer_35 : decode cX11_infer 35 = .ok (.ireturn, 1) := by decide +kernel
theorem dX11_check_0 : decode cX11_check 0 = .ok (.aload_n 0, 1) := by decide +kernel
theorem dX11_check_1 : decode cX11_check 1 = .ok (.invokevirtual 289, 3) := by decide +kernel
theorem dX11_check_4 : decode cX11_check 4 = .ok (.aload_n 0, 1) := by decide +kernel
theorem dX11_check_5 : decode cX11_check 5 = .ok (.getfield 66, 3) := by decide +kernel
theorem dX11_check_8 : decode cX11_check 8 = .ok (.invokevirtual 302, 3) := by decide +kernel
theorem dX11_check_11 : decode cX11_check 11 = .ok (.istore_n 1, 1) := by decide +kernel
theorem dX11_check_12 : decode cX11_check 12 = .ok (.aload_n 0, 1) := by decide +kernel
theorem dX11_check_13 : decode cX11_check 13 = .ok (.aload_n 0, 1) := by decide +kernel
theorem dX11_check_14 : decode cX11_check 14 = .ok (.getfield 66, 3) := by decide +kernel
theorem dX11_check_17 : decode cX11_check 17 = .ok (.getfield 303, 3) := by decide +kernel
theorem dX11_check_20 : decode cX11_check 20 = .ok (.putfield 70, 3) := by decide +kernel
theorem dX11_check_23 : decode cX11_check 23 = .ok (.aload_n 0, 1) := by decide +kernel
theorem dX11_check_24 : decode cX11_check 24 = .ok (.aload_n 0, 1) := by decide +kernel
theorem dX11_check_25 : decode cX11_check 25 = .ok (.getfield 66, 3) := by decide +kernel
theorem dX11_check_28 : decode cX11_check 28 = .ok (.getfield 304, 3) := by decide +kernel
theorem dX11_check_31 : decode cX11_check 31 = .ok (.putfield 73, 3) := by decide +kernel
theorem dX11_check_34 : decode cX11_check 34 = .ok (.iload_n 1, 1) := by decide +kernel
theorem dX11_check_35 : decode cX11_check 35 = .ok (.ireturn, 1) := by decide +kernel
theorem dX11_requireCode_0 : decode cX11_requireCode 0 = .ok (.aload_n 0, 1) := by decide +kernel
theorem dX11_requireCode_1 : decode cX11_requireCode 1 = .ok (.getfield 26, 3) := by decide +kernel
theorem dX11_requireCode_4 : decode cX11_requireCode 4 = .ok (.getfield 190, 3) := by decide +kernel
theorem dX11_requireCode_7 : decode cX11_requireCode 7 = .ok (.ifCond .ne 14, 3) := by decide +kernel
theorem dX11_requireCode_10 : decode cX11_requireCode 10 = .ok (.new 90, 3) := by decide +kernel
theorem dX11_requireCode_13 : decode cX11_requireCode 13 = .ok (.dup, 1) := by decide +kernel
theorem dX11_requireCode_14 : decode cX11_requireCode 14 = .ok (.ldc_w 305, 3) := by decide +kernel
theorem dX11_requireCode_17 : decode cX11_requireCode 17 = .ok (.invokespecial 94, 3) := by decide +kernel
theorem dX11_requireCode_20 : decode cX11_requireCode 20 = .ok (.athrow, 1) := by decide +kernel
theorem dX11_requireCode_21 : decode cX11_requireCode 21 = .ok (.return_, 1) := by decide +kernel
theorem dX11_errorPosition_0 : decode cX11_errorPosition 0 = .ok (.aload_n 0, 1) := by decide +kernel
theorem dX11_errorPosition_1 : decode cX11_errorPosition 1 = .ok (.getfield 70, 3) := by decide +kernel
theorem dX11_errorPosition_4 : decode cX11_errorPosition 4 = .ok (.ireturn, 1) := by decide +kernel
theorem dX11_visits_0 : decode cX11_visits 0 = .ok (.aload_n 0, 1) := by decide +kernel
theorem dX11_visits_1 : decode cX11_visits 1 = .ok (.getfield 73, 3) := by decide +kernel
theorem dX11_visits_4 : decode cX11_visits 4 = .ok (.ireturn, 1) := by decide +kernel
theorem dX11_hasFrame_0 : decode cX11_hasFrame 0 = .ok (.aload_n 0, 1) := by decide +kernel
theorem dX11_hasFrame_1 : decode cX11_hasFrame 1 = .ok (.iload_n 1, 1) := by decide +kernel
theorem dX11_hasFrame_2 : decode cX11_hasFrame 2 = .ok (.invokevirtual 307, 3) := by decide +kernel
theorem dX11_hasFrame_5 : decode cX11_hasFrame 5 = .ok (.aload_n 0, 1) := by decide +kernel
theorem dX11_hasFrame_6 : decode cX11_hasFrame 6 = .ok (.getfield 47, 3) := by decide +kernel
theorem dX11_hasFrame_9 : decode cX11_hasFrame 9 = .ok (.iload_n 1, 1) := by decide +kernel
theorem dX11_hasFrame_10 : decode cX11_hasFrame 10 = .ok (.invokevirtual 260, 3) := by decide +kernel
theorem dX11_hasFrame_13 : decode cX11_hasFrame 13 = .ok (.ireturn, 1) := by decide +kernel
theorem dX11_stackHeight_0 : decode cX11_stackHeight 0 = .ok (.aload_n 0, 1) := by decide +kernel
theorem dX11_stackHeight_1 : decode cX11_stackHeight 1 = .ok (.iload_n 1, 1) := by decide +kernel
theorem dX11_stackHeight_2 : decode cX11_stackHeight 2 = .ok (.invokevirtual 310, 3) := by decide +kernel
theorem dX11_stackHeight_5 : decode cX11_stackHeight 5 = .ok (.aload_n 0, 1) := by decide +kernel
theorem dX11_stackHeight_6 : decode cX11_stackHeight 6 = .ok (.getfield 47, 3) := by decide +kernel
theorem dX11_stackHeight_9 : decode cX11_stackHeight 9 = .ok (.getfield 285, 3) := by decide +kernel
theorem dX11_stackHeight_12 : decode cX11_stackHeight 12 = .ok (.iload_n 1, 1) := by decide +kernel
theorem dX11_stackHeight_13 : decode cX11_stackHeight 13 = .ok (.aaload, 1) := by decide +kernel
theorem dX11_stackHeight_14 : decode cX11_stackHeight 14 = .ok (.getfield 216, 3) := by decide +kernel
theorem dX11_stackHeight_17 : decode cX11_stackHeight 17 = .ok (.ireturn, 1) := by decide +kernel
theorem dX11_stackSlot_0 : decode cX11_stackSlot 0 = .ok (.aload_n 0, 1) := by decide +kernel
theorem dX11_stackSlot_1 : decode cX11_stackSlot 1 = .ok (.iload_n 1, 1) := by decide +kernel
theorem dX11_stackSlot_2 : decode cX11_stackSlot 2 = .ok (.invokevirtual 310, 3) := by decide +kernel
theorem dX11_stackSlot_5 : decode cX11_stackSlot 5 = .ok (.iload_n 2, 1) := by decide +kernel
theorem dX11_stackSlot_6 : decode cX11_stackSlot 6 = .ok (.ifCond .lt 19, 3) := by decide +kernel
theorem dX11_stackSlot_9 : decode cX11_stackSlot 9 = .ok (.iload_n 2, 1) := by decide +kernel
theorem dX11_stackSlot_10 : decode cX11_stackSlot 10 = .ok (.aload_n 0, 1) := by decide +kernel
theorem dX11_stackSlot_11 : decode cX11_stackSlot 11 = .ok (.getfield 47, 3) := by decide +kernel
theorem dX11_stackSlot_14 : decode cX11_stackSlot 14 = .ok (.getfield 285, 3) := by decide +kernel
theorem dX11_stackSlot_17 : decode cX11_stackSlot 17 = .ok (.iload_n 1, 1) := by decide +kernel
theorem dX11_stackSlot_18 : decode cX11_stackSlot 18 = .ok (.aaload, 1) := by decide +kernel
theorem dX11_stackSlot_19 : decode cX11_stackSlot 19 = .ok (.getfield 216, 3) := by decide +kernel
theorem dX11_stackSlot_22 : decode cX11_stackSlot 22 = .ok (.if_icmp .lt 14, 3) := by decide +kernel
theorem dX11_stackSlot_25 : decode cX11_stackSlot 25 = .ok (.new 313, 3) := by decide +kernel
theorem dX11_stackSlot_28 : decode cX11_stackSlot 28 = .ok (.dup, 1) := by decide +kernel
theorem dX11_stackSlot_29 : decode cX11_stackSlot 29 = .ok (.ldc_w 315, 3) := by decide +kernel
theorem dX11_stackSlot_32 : decode cX11_stackSlot 32 = .ok (.invokespecial 317, 3) := by decide +kernel
theorem dX11_stackSlot_35 : decode cX11_stackSlot 35 = .ok (.athrow, 1) := by decide +kernel
theorem dX11_stackSlot_36 : decode cX11_stackSlot 36 = .ok (.aload_n 0, 1) := by decide +kernel
theorem dX11_stackSlot_37 : decode cX11_stackSlot 37 = .ok (.getfield 47, 3) := by decide +kernel
theorem dX11_stackSlot_40 : decode cX11_stackSlot 40 = .ok (.getfield 285, 3) := by decide +kernel
theorem dX11_stackSlot_43 : decode cX11_stackSlot 43 = .ok (.iload_n 1, 1) := by decide +kernel
theorem dX11_stackSlot_44 : decode cX11_stackSlot 44 = .ok (.aaload, 1) := by decide +kernel
theorem dX11_stackSlot_45 : decode cX11_stackSlot 45 = .ok (.getfield 221, 3) := by decide +kernel
theorem dX11_stackSlot_48 : decode cX11_stackSlot 48 = .ok (.iload_n 2, 1) := by decide +kernel
theorem dX11_stackSlot_49 : decode cX11_stackSlot 49 = .ok (.iaload, 1) := by decide +kernel
theorem dX11_stackSlot_50 : decode cX11_stackSlot 50 = .ok (.ireturn, 1) := by decide +kernel
theorem dX11_localSlot_0 : decode cX11_localSlot 0 = .ok (.aload_n 0, 1) := by decide +kernel
theorem dX11_localSlot_1 : decode cX11_localSlot 1 = .ok (.iload_n 1, 1) := by decide +kernel
theorem dX11_localSlot_2 : decode cX11_localSlot 2 = .ok (.invokevirtual 310, 3) := by decide +kernel
theorem dX11_localSlot_5 : decode cX11_localSlot 5 = .ok (.iload_n 2, 1) := by decide +kernel
theorem dX11_localSlot_6 : decode cX11_localSlot 6 = .ok (.ifCond .lt 14, 3) := by decide +kernel
theorem dX11_localSlot_9 : decode cX11_localSlot 9 = .ok (.iload_n 2, 1) := by decide +kernel
theorem dX11_localSlot_10 : decode cX11_localSlot 10 = .ok (.aload_n 0, 1) := by decide +kernel
theorem dX11_localSlot_11 : decode cX11_localSlot 11 = .ok (.getfield 26, 3) := by decide +kernel
theorem dX11_localSlot_14 : decode cX11_localSlot 14 = .ok (.getfield 230, 3) := by decide +kernel
theorem dX11_localSlot_17 : decode cX11_localSlot 17 = .ok (.if_icmp .lt 14, 3) := by decide +kernel
theorem dX11_localSlot_20 : decode cX11_localSlot 20 = .ok (.new 313, 3) := by decide +kernel
theorem dX11_localSlot_23 : decode cX11_localSlot 23 = .ok (.dup, 1) := by decide +kernel
theorem dX11_localSlot_24 : decode cX11_localSlot 24 = .ok (.ldc_w 318, 3) := by decide +kernel
theorem dX11_localSlot_27 : decode cX11_localSlot 27 = .ok (.invokespecial 317, 3) := by decide +kernel
theorem dX11_localSlot_30 : decode cX11_localSlot 30 = .ok (.athrow, 1) := by decide +kernel
theorem dX11_localSlot_31 : decode cX11_localSlot 31 = .ok (.aload_n 0, 1) := by decide +kernel
theorem dX11_localSlot_32 : decode cX11_localSlot 32 = .ok (.getfield 47, 3) := by decide +kernel
theorem dX11_localSlot_35 : decode cX11_localSlot 35 = .ok (.getfield 285, 3) := by decide +kernel
theorem dX11_localSlot_38 : decode cX11_localSlot 38 = .ok (.iload_n 1, 1) := by decide +kernel
theorem dX11_localSlot_39 : decode cX11_localSlot 39 = .ok (.aaload, 1) := by decide +kernel
theorem dX11_localSlot_40 : decode cX11_localSlot 40 = .ok (.getfield 213, 3) := by decide +kernel
theorem dX11_localSlot_43 : decode cX11_localSlot 43 = .ok (.iload_n 2, 1) := by decide +kernel
theorem dX11_localSlot_44 : decode cX11_localSlot 44 = .ok (.iaload, 1) := by decide +kernel
theorem dX11_localSlot_45 : decode cX11_localSlot 45 = .ok (.ireturn, 1) := by decide +kernel
theorem dX11_requireIndex_0 : decode cX11_requireIndex 0 = .ok (.aload_n 0, 1) := by decide +kernel
theorem dX11_requireIndex_1 : decode cX11_requireIndex 1 = .ok (.getfield 26, 3) := by decide +kernel
theorem dX11_requireIndex_4 : decode cX11_requireIndex 4 = .ok (.iload_n 1, 1) := by decide +kernel
theorem dX11_requireIndex_5 : decode cX11_requireIndex 5 = .ok (.invokevirtual 224, 3) := by decide +kernel
theorem dX11_requireIndex_8 : decode cX11_requireIndex 8 = .ok (.ifCond .ne 13, 3) := by decide +kernel
theorem dX11_requireIndex_11 : decode cX11_requireIndex 11 = .ok (.new 167, 3) := by decide +kernel
theorem dX11_requireIndex_14 : decode cX11_requireIndex 14 = .ok (.dup, 1) := by decide +kernel
theorem dX11_requireIndex_15 : decode cX11_requireIndex 15 = .ok (.ldc 188, 2) := by decide +kernel
theorem dX11_requireIndex_17 : decode cX11_requireIndex 17 = .ok (.invokespecial 171, 3) := by decide +kernel
theorem dX11_requireIndex_20 : decode cX11_requireIndex 20 = .ok (.athrow, 1) := by decide +kernel
theorem dX11_requireIndex_21 : decode cX11_requireIndex 21 = .ok (.return_, 1) := by decide +kernel
theorem dX11_requireFrame_0 : decode cX11_requireFrame 0 = .ok (.aload_n 0, 1) := by decide +kernel
theorem dX11_requireFrame_1 : decode cX11_requireFrame 1 = .ok (.iload_n 1, 1) := by decide +kernel
theorem dX11_requireFrame_2 : decode cX11_requireFrame 2 = .ok (.invokevirtual 307, 3) := by decide +kernel
theorem dX11_requireFrame_5 : decode cX11_requireFrame 5 = .ok (.aload_n 0, 1) := by decide +kernel
theorem dX11_requireFrame_6 : decode cX11_requireFrame 6 = .ok (.getfield 47, 3) := by decide +kernel
theorem dX11_requireFrame_9 : decode cX11_requireFrame 9 = .ok (.iload_n 1, 1) := by decide +kernel
theorem dX11_requireFrame_10 : decode cX11_requireFrame 10 = .ok (.invokevirtual 260, 3) := by decide +kernel
theorem dX11_requireFrame_13 : decode cX11_requireFrame 13 = .ok (.ifCond .ne 14, 3) := by decide +kernel
theorem dX11_requireFrame_16 : decode cX11_requireFrame 16 = .ok (.new 90, 3) := by decide +kernel
theorem dX11_requireFrame_19 : decode cX11_requireFrame 19 = .ok (.dup, 1) := by decide +kernel
theorem dX11_requireFrame_20 : decode cX11_requireFrame 20 = .ok (.ldc_w 320, 3) := by decide +kernel
theorem dX11_requireFrame_23 : decode cX11_requireFrame 23 = .ok (.invokespecial 94, 3) := by decide +kernel
theorem dX11_requireFrame_26 : decode cX11_requireFrame 26 = .ok (.athrow, 1) := by decide +kernel
theorem dX11_requireFrame_27 : decode cX11_requireFrame 27 = .ok (.return_, 1) := by decide +kernel
theorem dX11_digest_0 : decode cX11_digest 0 = .ok (.ldc2_w 322, 3) := by decide +kernel
theorem dX11_digest_3 : decode cX11_digest 3 = .ok (.lstore_n 1, 1) := by decide +kernel
theorem dX11_digest_4 : decode cX11_digest 4 = .ok (.lload_n 1, 1) := by decide +kernel
theorem dX11_digest_5 : decode cX11_digest 5 = .ok (.ldc2_w 324, 3) := by decide +kernel
theorem dX11_digest_8 : decode cX11_digest 8 = .ok (.lmul, 1) := by decide +kernel
theorem dX11_digest_9 : decode cX11_digest 9 = .ok (.aload_n 0, 1) := by decide +kernel
theorem dX11_digest_10 : decode cX11_digest 10 = .ok (.getfield 10, 3) := by decide +kernel
theorem dX11_digest_13 : decode cX11_digest 13 = .ok (.getfield 87, 3) := by decide +kernel
theorem dX11_digest_16 : decode cX11_digest 16 = .ok (.i2l, 1) := by decide +kernel
theorem dX11_digest_17 : decode cX11_digest 17 = .ok (.ladd, 1) := by decide +kernel
theorem dX11_digest_18 : decode cX11_digest 18 = .ok (.lstore_n 1, 1) := by decide +kernel
theorem dX11_digest_19 : decode cX11_digest 19 = .ok (.lload_n 1, 1) := by decide +kernel
theorem dX11_digest_20 : decode cX11_digest 20 = .ok (.ldc2_w 324, 3) := by decide +kernel
theorem dX11_digest_23 : decode cX11_digest 23 = .ok (.lmul, 1) := by decide +kernel
theorem dX11_digest_24 : decode cX11_digest 24 = .ok (.aload_n 0, 1) := by decide +kernel
theorem dX11_digest_25 : decode cX11_digest 25 = .ok (.getfield 19, 3) := by decide +kernel
theorem dX11_digest_28 : decode cX11_digest 28 = .ok (.getfield 104, 3) := by decide +kernel
theorem dX11_digest_31 : decode cX11_digest 31 = .ok (.i2l, 1) := by decide +kernel
theorem dX11_digest_32 : decode cX11_digest 32 = .ok (.ladd, 1) := by decide +kernel
theorem dX11_digest_33 : decode cX11_digest 33 = .ok (.lstore_n 1, 1) := by decide +kernel
theorem dX11_digest_34 : decode cX11_digest 34 = .ok (.lload_n 1, 1) := by decide +kernel
theorem dX11_digest_35 : decode cX11_digest 35 = .ok (.ldc2_w 324, 3) := by decide +kernel
theorem dX11_digest_38 : decode cX11_digest 38 = .ok (.lmul, 1) := by decide +kernel
