theorem dX12_create_86 : decode cX12_create 86 = .ok (.return_, 1) := by decide +kernel
theorem dX12_popArguments_0 : decode cX12_popArguments 0 = .ok (.aload_n 0, 1) := by decide +kernel
theorem dX12_popArguments_1 : decode cX12_popArguments 1 = .ok (.getfield 36, 3) := by decide +kernel
theorem dX12_popArguments_4 : decode cX12_popArguments 4 = .ok (.iload_n 1, 1) := by decide +kernel
theorem dX12_popArguments_5 : decode cX12_popArguments 5 = .ok (.iaload, 1) := by decide +kernel
theorem dX12_popArguments_6 : decode cX12_popArguments 6 = .ok (.iconst 1, 1) := by decide +kernel
theorem dX12_popArguments_7 : decode cX12_popArguments 7 = .ok (.isub, 1) := by decide +kernel
theorem dX12_popArguments_8 : decode cX12_popArguments 8 = .ok (.istore_n 2, 1) := by decide +kernel
theorem dX12_popArguments_9 : decode cX12_popArguments 9 = .ok (.iload_n 2, 1) := by decide +kernel
theorem dX12_popArguments_10 : decode cX12_popArguments 10 = .ok (.ifCond .lt 24, 3) := by decide +kernel
theorem dX12_popArguments_13 : decode cX12_popArguments 13 = .ok (.aload_n 0, 1) := by decide +kernel
theorem dX12_popArguments_14 : decode cX12_popArguments 14 = .ok (.aload_n 0, 1) := by decide +kernel
theorem dX12_popArguments_15 : decode cX12_popArguments 15 = .ok (.getfield 39, 3) := by decide +kernel
theorem dX12_popArguments_18 : decode cX12_popArguments 18 = .ok (.bipush 6, 2) := by decide +kernel
theorem dX12_popArguments_20 : decode cX12_popArguments 20 = .ok (.iload_n 1, 1) := by decide +kernel
theorem dX12_popArguments_21 : decode cX12_popArguments 21 = .ok (.imul, 1) := by decide +kernel
theorem dX12_popArguments_22 : decode cX12_popArguments 22 = .ok (.iload_n 2, 1) := by decide +kernel
theorem dX12_popArguments_23 : decode cX12_popArguments 23 = .ok (.iadd, 1) := by decide +kernel
theorem dX12_popArguments_24 : decode cX12_popArguments 24 = .ok (.iaload, 1) := by decide +kernel
theorem dX12_popArguments_25 : decode cX12_popArguments 25 = .ok (.invokevirtual 244, 3) := by decide +kernel
theorem dX12_popArguments_28 : decode cX12_popArguments 28 = .ok (.iinc 2 (-1), 3) := by decide +kernel
theorem dX12_popArguments_31 : decode cX12_popArguments 31 = .ok (.goto (-22), 3) := by decide +kernel
theorem dX12_popArguments_34 : decode cX12_popArguments 34 = .ok (.return_, 1) := by decide +kernel
theorem dX12_construct_0 : decode cX12_construct 0 = .ok (.aload_n 0, 1) := by decide +kernel
theorem dX12_construct_1 : decode cX12_construct 1 = .ok (.iload_n 1, 1) := by decide +kernel
theorem dX12_construct_2 : decode cX12_construct 2 = .ok (.invokevirtual 301, 3) := by decide +kernel
theorem dX12_construct_5 : decode cX12_construct 5 = .ok (.aload_n 0, 1) := by decide +kernel
theorem dX12_construct_6 : decode cX12_construct 6 = .ok (.iconst 1, 1) := by decide +kernel
theorem dX12_construct_7 : decode cX12_construct 7 = .ok (.invokevirtual 225, 3) := by decide +kernel
theorem dX12_construct_10 : decode cX12_construct 10 = .ok (.ifCond .eq 17, 3) := by decide +kernel
theorem dX12_construct_13 : decode cX12_construct 13 = .ok (.aload_n 0, 1) := by decide +kernel
theorem dX12_construct_14 : decode cX12_construct 14 = .ok (.aload_n 0, 1) := by decide +kernel
theorem dX12_construct_15 : decode cX12_construct 15 = .ok (.aload_n 0, 1) := by decide +kernel
theorem dX12_construct_16 : decode cX12_construct 16 = .ok (.iconst 0, 1) := by decide +kernel
theorem dX12_construct_17 : decode cX12_construct 17 = .ok (.invokevirtual 228, 3) := by decide +kernel
theorem dX12_construct_20 : decode cX12_construct 20 = .ok (.iload_n 1, 1) := by decide +kernel
theorem dX12_construct_21 : decode cX12_construct 21 = .ok (.invokevirtual 304, 3) := by decide +kernel
theorem dX12_construct_24 : decode cX12_construct 24 = .ok (.invokevirtual 231, 3) := by decide +kernel
theorem dX12_construct_27 : decode cX12_construct 27 = .ok (.aload_n 0, 1) := by decide +kernel
theorem dX12_construct_28 : decode cX12_construct 28 = .ok (.iconst 1, 1) := by decide +kernel
theorem dX12_construct_29 : decode cX12_construct 29 = .ok (.invokevirtual 235, 3) := by decide +kernel
theorem dX12_construct_32 : decode cX12_construct 32 = .ok (.istore_n 2, 1) := by decide +kernel
theorem dX12_construct_33 : decode cX12_construct 33 = .ok (.aload_n 0, 1) := by decide +kernel
theorem dX12_construct_34 : decode cX12_construct 34 = .ok (.invokevirtual 218, 3) := by decide +kernel
theorem dX12_construct_37 : decode cX12_construct 37 = .ok (.ifCond .ne 4, 3) := by decide +kernel
theorem dX12_construct_40 : decode cX12_construct 40 = .ok (.return_, 1) := by decide +kernel
theorem dX12_construct_41 : decode cX12_construct 41 = .ok (.iload_n 2, 1) := by decide +kernel
theorem dX12_construct_42 : decode cX12_construct 42 = .ok (.bipush (-4), 2) := by decide +kernel
theorem dX12_construct_44 : decode cX12_construct 44 = .ok (.if_icmp .ne 11, 3) := by decide +kernel
theorem dX12_construct_47 : decode cX12_construct 47 = .ok (.aload_n 0, 1) := by decide +kernel
theorem dX12_construct_48 : decode cX12_construct 48 = .ok (.getfield 81, 3) := by decide +kernel
theorem dX12_construct_51 : decode cX12_construct 51 = .ok (.bipush 25, 2) := by decide +kernel
theorem dX12_construct_53 : decode cX12_construct 53 = .ok (.iconst 0, 1) := by decide +kernel
theorem dX12_construct_54 : decode cX12_construct 54 = .ok (.iastore, 1) := by decide +kernel
theorem dX12_construct_55 : decode cX12_construct 55 = .ok (.aload_n 0, 1) := by decide +kernel
theorem dX12_construct_56 : decode cX12_construct 56 = .ok (.iload_n 2, 1) := by decide +kernel
theorem dX12_construct_57 : decode cX12_construct 57 = .ok (.bipush 8, 2) := by decide +kernel
theorem dX12_construct_59 : decode cX12_construct 59 = .ok (.iload_n 2, 1) := by decide +kernel
theorem dX12_construct_60 : decode cX12_construct 60 = .ok (.bipush (-4), 2) := by decide +kernel
theorem dX12_construct_62 : decode cX12_construct 62 = .ok (.if_icmp .ne 15, 3) := by decide +kernel
theorem dX12_construct_65 : decode cX12_construct 65 = .ok (.aload_n 0, 1) := by decide +kernel
theorem dX12_construct_66 : decode cX12_construct 66 = .ok (.getfield 27, 3) := by decide +kernel
theorem dX12_construct_69 : decode cX12_construct 69 = .ok (.aload_n 0, 1) := by decide +kernel
theorem dX12_construct_70 : decode cX12_construct 70 = .ok (.getfield 156, 3) := by decide +kernel
theorem dX12_construct_73 : decode cX12_construct 73 = .ok (.iaload, 1) := by decide +kernel
theorem dX12_construct_74 : decode cX12_construct 74 = .ok (.goto 9, 3) := by decide +kernel
theorem dX12_construct_77 : decode cX12_construct 77 = .ok (.aload_n 0, 1) := by decide +kernel
theorem dX12_construct_78 : decode cX12_construct 78 = .ok (.getfield 27, 3) := by decide +kernel
theorem dX12_construct_81 : decode cX12_construct 81 = .ok (.iload_n 1, 1) := by decide +kernel
theorem dX12_construct_82 : decode cX12_construct 82 = .ok (.iaload, 1) := by decide +kernel
theorem dX12_construct_83 : decode cX12_construct 83 = .ok (.imul, 1) := by decide +kernel
theorem dX12_construct_84 : decode cX12_construct 84 = .ok (.invokevirtual 307, 3) := by decide +kernel
theorem dX12_construct_87 : decode cX12_construct 87 = .ok (.return_, 1) := by decide +kernel
theorem dX12_isToConstruct_0 : decode cX12_isToConstruct 0 = .ok (.aload_n 0, 1) := by decide +kernel
theorem dX12_isToConstruct_1 : decode cX12_isToConstruct 1 = .ok (.getfield 27, 3) := by decide +kernel
theorem dX12_isToConstruct_4 : decode cX12_isToConstruct 4 = .ok (.aload_n 0, 1) := by decide +kernel
theorem dX12_isToConstruct_5 : decode cX12_isToConstruct 5 = .ok (.getfield 156, 3) := by decide +kernel
theorem dX12_isToConstruct_8 : decode cX12_isToConstruct 8 = .ok (.iaload, 1) := by decide +kernel
theorem dX12_isToConstruct_9 : decode cX12_isToConstruct 9 = .ok (.istore_n 3, 1) := by decide +kernel
theorem dX12_isToConstruct_10 : decode cX12_isToConstruct 10 = .ok (.iload_n 1, 1) := by decide +kernel
theorem dX12_isToConstruct_11 : decode cX12_isToConstruct 11 = .ok (.bipush (-4), 2) := by decide +kernel
theorem dX12_isToConstruct_13 : decode cX12_isToConstruct 13 = .ok (.if_icmp .ne 39, 3) := by decide +kernel
theorem dX12_isToConstruct_16 : decode cX12_isToConstruct 16 = .ok (.aload_n 0, 1) := by decide +kernel
theorem dX12_isToConstruct_17 : decode cX12_isToConstruct 17 = .ok (.getfield 27, 3) := by decide +kernel
theorem dX12_isToConstruct_20 : decode cX12_isToConstruct 20 = .ok (.iload_n 2, 1) := by decide +kernel
theorem dX12_isToConstruct_21 : decode cX12_isToConstruct 21 = .ok (.iaload, 1) := by decide +kernel
theorem dX12_isToConstruct_22 : decode cX12_isToConstruct 22 = .ok (.iload_n 3, 1) := by decide +kernel
theorem dX12_isToConstruct_23 : decode cX12_isToConstruct 23 = .ok (.if_icmp .eq 23, 3) := by decide +kernel
theorem dX12_isToConstruct_26 : decode cX12_isToConstruct 26 = .ok (.iload_n 3, 1) := by decide +kernel
theorem dX12_isToConstruct_27 : decode cX12_isToConstruct 27 = .ok (.iconst 2, 1) := by decide +kernel
theorem dX12_isToConstruct_28 : decode cX12_isToConstruct 28 = .ok (.if_icmp .eq 22, 3) := by decide +kernel
theorem dX12_isToConstruct_31 : decode cX12_isToConstruct 31 = .ok (.aload_n 0, 1) := by decide +kernel
theorem dX12_isToConstruct_32 : decode cX12_isToConstruct 32 = .ok (.getfield 27, 3) := by decide +kernel
theorem dX12_isToConstruct_35 : decode cX12_isToConstruct 35 = .ok (.iload_n 2, 1) := by decide +kernel
theorem dX12_isToConstruct_36 : decode cX12_isToConstruct 36 = .ok (.iaload, 1) := by decide +kernel
theorem dX12_isToConstruct_37 : decode cX12_isToConstruct 37 = .ok (.aload_n 0, 1) := by decide +kernel
theorem dX12_isToConstruct_38 : decode cX12_isToConstruct 38 = .ok (.getfield 13, 3) := by decide +kernel
theorem dX12_isToConstruct_41 : decode cX12_isToConstruct 41 = .ok (.iload_n 3, 1) := by decide +kernel
theorem dX12_isToConstruct_42 : decode cX12_isToConstruct 42 = .ok (.iaload, 1) := by decide +kernel
theorem dX12_isToConstruct_43 : decode cX12_isToConstruct 43 = .ok (.if_icmp .ne 7, 3) := by decide +kernel
theorem dX12_isToConstruct_46 : decode cX12_isToConstruct 46 = .ok (.iconst 1, 1) := by decide +kernel
theorem dX12_isToConstruct_47 : decode cX12_isToConstruct 47 = .ok (.goto 4, 3) := by decide +kernel
theorem dX12_isToConstruct_50 : decode cX12_isToConstruct 50 = .ok (.iconst 0, 1) := by decide +kernel
theorem dX12_isToConstruct_51 : decode cX12_isToConstruct 51 = .ok (.ireturn, 1) := by decide +kernel
theorem dX12_isToConstruct_52 : decode cX12_isToConstruct 52 = .ok (.bipush (-10), 2) := by decide +kernel
theorem dX12_isToConstruct_54 : decode cX12_isToConstruct 54 = .ok (.iload_n 1, 1) := by decide +kernel
theorem dX12_isToConstruct_55 : decode cX12_isToConstruct 55 = .ok (.isub, 1) := by decide +kernel
theorem dX12_isToConstruct_56 : decode cX12_isToConstruct 56 = .ok (.istore 4, 2) := by decide +kernel
theorem dX12_isToConstruct_58 : decode cX12_isToConstruct 58 = .ok (.iload_n 1, 1) := by decide +kernel
theorem dX12_isToConstruct_59 : decode cX12_isToConstruct 59 = .ok (.bipush (-10), 2) := by decide +kernel
theorem dX12_isToConstruct_61 : decode cX12_isToConstruct 61 = .ok (.if_icmp .gt 44, 3) := by decide +kernel
theorem dX12_isToConstruct_64 : decode cX12_isToConstruct 64 = .ok (.iload 4, 2) := by decide +kernel
theorem dX12_isToConstruct_66 : decode cX12_isToConstruct 66 = .ok (.aload_n 0, 1) := by decide +kernel
theorem dX12_isToConstruct_67 : decode cX12_isToConstruct 67 = .ok (.getfield 165, 3) := by decide +kernel
theorem dX12_isToConstruct_70 : decode cX12_isToConstruct 70 = .ok (.if_icmp .ge 35, 3) := by decide +kernel
theorem dX12_isToConstruct_73 : decode cX12_isToConstruct 73 = .ok (.aload_n 0, 1) := by decide +kernel
theorem dX12_isToConstruct_74 : decode cX12_isToConstruct 74 = .ok (.getfield 45, 3) := by decide +kernel
theorem dX12_isToConstruct_77 : decode cX12_isToConstruct 77 = .ok (.iload 4, 2) := by decide +kernel
theorem dX12_isToConstruct_79 : decode cX12_isToConstruct 79 = .ok (.iaload, 1) := by decide +kernel
theorem dX12_isToConstruct_80 : decode cX12_isToConstruct 80 = .ok (.bipush 34, 2) := by decide +kernel
theorem dX12_isToConstruct_82 : decode cX12_isToConstruct 82 = .ok (.if_icmp .ne 23, 3) := by decide +kernel
theorem dX12_isToConstruct_85 : decode cX12_isToConstruct 85 = .ok (.aload_n 0, 1) := by decide +kernel
theorem dX12_isToConstruct_86 : decode cX12_isToConstruct 86 = .ok (.getfield 48, 3) := by decide +kernel
theorem dX12_isToConstruct_89 : decode cX12_isToConstruct 89 = .ok (.iload 4, 2) := by decide +kernel
theorem dX12_isToConstruct_91 : decode cX12_isToConstruct 91 = .ok (.iaload, 1) := by decide +kernel
theorem dX12_isToConstruct_92 : decode cX12_isToConstruct 92 = .ok (.aload_n 0, 1) := by decide +kernel
theorem dX12_isToConstruct_93 : decode cX12_isToConstruct 93 = .ok (.getfield 27, 3) := by decide +kernel
theorem dX12_isToConstruct_96 : decode cX12_isToConstruct 96 = .ok (.iload_n 2, 1) := by decide +kernel
theorem dX12_isToConstruct_97 : decode cX12_isToConstruct 97 = .ok (.iaload, 1) := by decide +kernel
theorem dX12_isToConstruct_98 : decode cX12_isToConstruct 98 = .ok (.if_icmp .ne 7, 3) := by decide +kernel
theorem dX12_isToConstruct_101 : decode cX12_isToConstruct 101 = .ok (.iconst 1, 1) := by decide +kernel
theorem dX12_isToConstruct_102 : decode cX12_isToConstruct 102 = .ok (.goto 4, 3) := by decide +kernel
theorem dX12_isToConstruct_105 : decode cX12_isToConstruct 105 = .ok (.iconst 0, 1) := by decide +kernel
theorem dX12_isToConstruct_106 : decode cX12_isToConstruct 106 = .ok (.ireturn, 1) := by decide +kernel
theorem dX12_useArray_0 : decode cX12_useArray 0 = .ok (.iload_n 1, 1) := by decide +kernel
theorem dX12_useArray_1 : decode cX12_useArray 1 = .ok (.tableswitch 181 38 43 #[39, 53, 69, 84, 112, 129], 39) := by decide +kernel
theorem dX12_useArray_40 : decode cX12_useArray 40 = .ok (.aload_n 0, 1) := by decide +kernel
theorem dX12_useArray_41 : decode cX12_useArray 41 = .ok (.invokevirtual 277, 3) := by decide +kernel
theorem dX12_useArray_44 : decode cX12_useArray 44 = .ok (.aload_n 0, 1) := by decide +kernel
theorem dX12_useArray_45 : decode cX12_useArray 45 = .ok (.iload_n 2, 1) := by decide +kernel
theorem dX12_useArray_46 : decode cX12_useArray 46 = .ok (.iconst 1, 1) := by decide +kernel
theorem dX12_useArray_47 : decode cX12_useArray 47 = .ok (.iadd, 1) := by decide +kernel
theorem dX12_useArray_48 : decode cX12_useArray 48 = .ok (.invokevirtual 247, 3) := by decide +kernel
theorem dX12_useArray_51 : decode cX12_useArray 51 = .ok (.goto 151, 3) := by decide +kernel
theorem dX12_useArray_54 : decode cX12_useArray 54 = .ok (.aload_n 0, 1) := by decide +kernel
theorem dX12_useArray_55 : decode cX12_useArray 55 = .ok (.invokevirtual 277, 3) := by decide +kernel
theorem dX12_useArray_58 : decode cX12_useArray 58 = .ok (.aload_n 0, 1) := by decide +kernel
theorem dX12_useArray_59 : decode cX12_useArray 59 = .ok (.invokevirtual 310, 3) := by decide +kernel
theorem dX12_useArray_62 : decode cX12_useArray 62 = .ok (.aload_n 0, 1) := by decide +kernel
theorem dX12_useArray_63 : decode cX12_useArray 63 = .ok (.iconst 0, 1) := by decide +kernel
theorem dX12_useArray_64 : decode cX12_useArray 64 = .ok (.invokevirtual 247, 3) := by decide +kernel
theorem dX12_useArray_67 : decode cX12_useArray 67 = .ok (.goto 135, 3) := by decide +kernel
theorem dX12_useArray_70 : decode cX12_useArray 70 = .ok (.aload_n 0, 1) := by decide +kernel
theorem dX12_useArray_71 : decode cX12_useArray 71 = .ok (.invokevirtual 277, 3) := by decide +kernel
theorem dX12_useArray_74 : decode cX12_useArray 74 = .ok (.aload_n 0, 1) := by decide +kernel
theorem dX12_useArray_75 : decode cX12_useArray 75 = .ok (.invokevirtual 277, 3) := by decide +kernel
theorem dX12_useArray_78 : decode cX12_useArray 78 = .ok (.aload_n 0, 1) := by decide +kernel
theorem dX12_useArray_79 : decode cX12_useArray 79 = .ok (.invokevirtual 310, 3) := by decide +kernel
theorem dX12_useArray_82 : decode cX12_useArray 82 = .ok (.goto 120, 3) := by decide +kernel
theorem dX12_useArray_85 : decode cX12_useArray 85 = .ok (.aload_n 0, 1) := by decide +kernel
theorem dX12_useArray_86 : decode cX12_useArray 86 = .ok (.invokevirtual 277, 3) := by decide +kernel
theorem dX12_useArray_89 : decode cX12_useArray 89 = .ok (.aload_n 0, 1) := by decide +kernel
theorem dX12_useArray_90 : decode cX12_useArray 90 = .ok (.invokevirtual 313, 3) := by decide +kernel
theorem dX12_useArray_93 : decode cX12_useArray 93 = .ok (.istore_n 3, 1) := by decide +kernel
theorem dX12_useArray_94 : decode cX12_useArray 94 = .ok (.aload_n 0, 1) := by decide +kernel
theorem dX12_useArray_95 : decode cX12_useArray 95 = .ok (.iload_n 3, 1) := by decide +kernel
theorem dX12_useArray_96 : decode cX12_useArray 96 = .ok (.iconst (-1), 1) := by decide +kernel
theorem dX12_useArray_97 : decode cX12_useArray 97 = .ok (.if_icmp .ne 7, 3) := by decide +kernel
theorem dX12_useArray_100 : decode cX12_useArray 100 = .ok (.iconst (-1), 1) := by decide +kernel
theorem dX12_useArray_101 : decode cX12_useArray 101 = .ok (.goto 6, 3) := by decide +kernel
theorem dX12_useArray_104 : decode cX12_useArray 104 = .ok (.iload_n 3, 1) := by decide +kernel
theorem dX12_useArray_105 : decode cX12_useArray 105 = .ok (.iconst 1, 1) := by decide +kernel
theorem dX12_useArray_106 : decode cX12_useArray 106 = .ok (.isub, 1) := by decide +kernel
theorem dX12_useArray_107 : decode cX12_useArray 107 = .ok (.invokevirtual 247, 3) := by decide +kernel
theorem dX12_useArray_110 : decode cX12_useArray 110 = .ok (.goto 92, 3) := by decide +kernel
theorem dX12_useArray_113 : decode cX12_useArray 113 = .ok (.aload_n 0, 1) := by decide +kernel
theorem dX12_useArray_114 : decode cX12_useArray 114 = .ok (.invokevirtual 289, 3) := by decide +kernel
theorem dX12_useArray_117 : decode cX12_useArray 117 = .ok (.pop, 1) := by decide +kernel
theorem dX12_useArray_118 : decode cX12_useArray 118 = .ok (.aload_n 0, 1) := by decide +kernel
theorem dX12_useArray_119 : decode cX12_useArray 119 = .ok (.invokevirtual 277, 3) := by decide +kernel
theorem dX12_useArray_122 : decode cX12_useArray 122 = .ok (.aload_n 0, 1) := by decide +kernel
theorem dX12_useArray_123 : decode cX12_useArray 123 = .ok (.invokevirtual 313, 3) := by decide +kernel
theorem dX12_useArray_126 : decode cX12_useArray 126 = .ok (.pop, 1) := by decide +kernel
theorem dX12_useArray_127 : decode cX12_useArray 127 = .ok (.goto 75, 3) := by decide +kernel
theorem dX12_useArray_130 : decode cX12_useArray 130 = .ok (.aload_n 0, 1) := by decide +kernel
theorem dX12_useArray_131 : decode cX12_useArray 131 = .ok (.iconst 1, 1) := by decide +kernel
theorem dX12_useArray_132 : decode cX12_useArray 132 = .ok (.invokevirtual 225, 3) := by decide +kernel
theorem dX12_useArray_135 : decode cX12_useArray 135 = .ok (.ifCond .eq 33, 3) := by decide +kernel
theorem dX12_useArray_138 : decode cX12_useArray 138 = .ok (.aload_n 0, 1) := by decide +kernel
theorem dX12_useArray_139 : decode cX12_useArray 139 = .ok (.aload_n 0, 1) := by decide +kernel
theorem dX12_useArray_140 : decode cX12_useArray 140 = .ok (.iconst 0, 1) := by decide +kernel
theorem dX12_useArray_141 : decode cX12_useArray 141 = .ok (.invokevirtual 228, 3) := by decide +kernel
theorem dX12_useArray_144 : decode cX12_useArray 144 = .ok (.iconst (-1), 1) := by decide +kernel
theorem dX12_useArray_145 : decode cX12_useArray 145 = .ok (.if_icmp .eq 15, 3) := by decide +kernel
theorem dX12_useArray_148 : decode cX12_useArray 148 = .ok (.aload_n 0, 1) := by decide +kernel
theorem dX12_useArray_149 : decode cX12_useArray 149 = .ok (.aload_n 0, 1) := by decide +kernel
theorem dX12_useArray_150 : decode cX12_useArray 150 = .ok (.iconst 0, 1) := by decide +kernel
theorem dX12_useArray_151 : decode cX12_useArray 151 = .ok (.invokevirtual 228, 3) := by decide +kernel
theorem dX12_useArray_154 : decode cX12_useArray 154 = .ok (.invokevirtual 97, 3) := by decide +kernel
theorem dX12_useArray_157 : decode cX12_useArray 157 = .ok (.ifCond .eq 7, 3) := by decide +kernel
theorem dX12_useArray_160 : decode cX12_useArray 160 = .ok (.iconst 1, 1) := by decide +kernel
theorem dX12_useArray_161 : decode cX12_useArray 161 = .ok (.goto 4, 3) := by decide +kernel
theorem dX12_useArray_164 : decode cX12_useArray 164 = .ok (.iconst 0, 1) := by decide +kernel
theorem dX12_useArray_165 : decode cX12_useArray 165 = .ok (.invokevirtual 231, 3) := by decide +kernel
theorem dX12_useArray_168 : decode cX12_useArray 168 = .ok (.aload_n 0, 1) := by decide +kernel
theorem dX12_useArray_169 : decode cX12_useArray 169 = .ok (.iconst 1, 1) := by decide +kernel
theorem dX12_useArray_170 : decode cX12_useArray 170 = .ok (.invokevirtual 235, 3) := by decide +kernel
theorem dX12_useArray_173 : decode cX12_useArray 173 = .ok (.pop, 1) := by decide +kernel
theorem dX12_useArray_174 : decode cX12_useArray 174 = .ok (.aload_n 0, 1) := by decide +kernel
theorem dX12_useArray_175 : decode cX12_useArray 175 = .ok (.iconst 0, 1) := by decide +kernel
theorem dX12_useArray_176 : decode cX12_useArray 176 = .ok (.invokevirtual 247, 3) := by decide +kernel
theorem dX12_useArray_179 : decode cX12_useArray 179 = .ok (.goto 23, 3) := by decide +kernel
theorem dX12_useArray_182 : decode cX12_useArray 182 = .ok (.aload_n 0, 1) := by decide +kernel
theorem dX12_useArray_183 : decode cX12_useArray 183 = .ok (.invokevirtual 289, 3) := by decide +kernel
theorem dX12_useArray_186 : decode cX12_useArray 186 = .ok (.pop, 1) := by decide +kernel
theorem dX12_useArray_187 : decode cX12_useArray 187 = .ok (.aload_n 0, 1) := by decide +kernel
theorem dX12_useArray_188 : decode cX12_useArray 188 = .ok (.iload_n 1, 1) := by decide +kernel
theorem dX12_useArray_189 : decode cX12_useArray 189 = .ok (.bipush 44, 2) := by decide +kernel
theorem dX12_useArray_191 : decode cX12_useArray 191 = .ok (.if_icmp .ne 7, 3) := by decide +kernel
theorem dX12_useArray_194 : decode cX12_useArray 194 = .ok (.iload_n 2, 1) := by decide +kernel
theorem dX12_useArray_195 : decode cX12_useArray 195 = .ok (.goto 4, 3) := by decide +kernel
theorem dX12_useArray_198 : decode cX12_useArray 198 = .ok (.iconst 0, 1) := by decide +kernel
theorem dX12_useArray_199 : decode cX12_useArray 199 = .ok (.invokevirtual 247, 3) := by decide +kernel
theorem dX12_useArray_202 : decode cX12_useArray 202 = .ok (.return_, 1) := by decide +kernel
theorem dX12_fitsFrame_0 : decode cX12_fitsFrame 0 = .ok (.aload_n 1, 1) := by decide +kernel
theorem dX12_fitsFrame_1 : decode cX12_fitsFrame 1 = .ok (.bipush 24, 2) := by decide +kernel
theorem dX12_fitsFrame_3 : decode cX12_fitsFrame 3 = .ok (.iaload, 1) := by decide +kernel
theorem dX12_fitsFrame_4 : decode cX12_fitsFrame 4 = .ok (.aload_n 2, 1) := by decide +kernel
theorem dX12_fitsFrame_5 : decode cX12_fitsFrame 5 = .ok (.iload_n 3, 1) := by decide +kernel
theorem dX12_fitsFrame_6 : decode cX12_fitsFrame 6 = .ok (.bipush 24, 2) := by decide +kernel
theorem dX12_fitsFrame_8 : decode cX12_fitsFrame 8 = .ok (.iadd, 1) := by decide +kernel
theorem dX12_fitsFrame_9 : decode cX12_fitsFrame 9 = .ok (.iaload, 1) := by decide +kernel
theorem dX12_fitsFrame_10 : decode cX12_fitsFrame 10 = .ok (.if_icmp .ne 20, 3) := by decide +kernel
theorem dX12_fitsFrame_13 : decode cX12_fitsFrame 13 = .ok (.aload_n 1, 1) := by decide +kernel
theorem dX12_fitsFrame_14 : decode cX12_fitsFrame 14 = .ok (.bipush 25, 2) := by decide +kernel
theorem dX12_fitsFrame_16 : decode cX12_fitsFrame 16 = .ok (.iaload, 1) := by decide +kernel
theorem dX12_fitsFrame_17 : decode cX12_fitsFrame 17 = .ok (.aload_n 2, 1) := by decide +kernel
theorem dX12_fitsFrame_18 : decode cX12_fitsFrame 18 = .ok (.iload_n 3, 1) := by decide +kernel
theorem dX12_fitsFrame_19 : decode cX12_fitsFrame 19 = .ok (.bipush 25, 2) := by decide +kernel
theorem dX12_fitsFrame_21 : decode cX12_fitsFrame 21 = .ok (.iadd, 1) := by decide +kernel
theorem dX12_fitsFrame_22 : decode cX12_fitsFrame 22 = .ok (.iaload, 1) := by decide +kernel
theorem dX12_fitsFrame_23 : decode cX12_fitsFrame 23 = .ok (.if_icmp .gt 7, 3) := by decide +kernel
theorem dX12_fitsFrame_26 : decode cX12_fitsFrame 26 = .ok (.iconst 1, 1) := by decide +kernel
theorem dX12_fitsFrame_27 : decode cX12_fitsFrame 27 = .ok (.goto 4, 3) := by decide +kernel
theorem dX12_fitsFrame_30 : decode cX12_fitsFrame 30 = .ok (.iconst 0, 1) := by decide +kernel
theorem dX12_fitsFrame_31 : decode cX12_fitsFrame 31 = .ok (.istore 4, 2) := by decide +kernel
theorem dX12_fitsFrame_33 : decode cX12_fitsFrame 33 = .ok (.iconst 0, 1) := by decide +kernel
theorem dX12_fitsFrame_34 : decode cX12_fitsFrame 34 = .ok (.istore 5, 2) := by decide +kernel
theorem dX12_fitsFrame_36 : decode cX12_fitsFrame 36 = .ok (.iload 5, 2) := by decide +kernel
theorem dX12_fitsFrame_38 : decode cX12_fitsFrame 38 = .ok (.aload_n 0, 1) := by decide +kernel
theorem dX12_fitsFrame_39 : decode cX12_fitsFrame 39 = .ok (.getfield 162, 3) := by decide +kernel
theorem dX12_fitsFrame_42 : decode cX12_fitsFrame 42 = .ok (.if_icmp .ge 30, 3) := by decide +kernel
theorem dX12_fitsFrame_45 : decode cX12_fitsFrame 45 = .ok (.iload 4, 2) := by decide +kernel
theorem dX12_fitsFrame_47 : decode cX12_fitsFrame 47 = .ok (.ifCond .eq 25, 3) := by decide +kernel
theorem dX12_fitsFrame_50 : decode cX12_fitsFrame 50 = .ok (.aload_n 0, 1) := by decide +kernel
theorem dX12_fitsFrame_51 : decode cX12_fitsFrame 51 = .ok (.aload_n 1, 1) := by decide +kernel
theorem dX12_fitsFrame_52 : decode cX12_fitsFrame 52 = .ok (.iload 5, 2) := by decide +kernel
theorem dX12_fitsFrame_54 : decode cX12_fitsFrame 54 = .ok (.iaload, 1) := by decide +kernel
theorem dX12_fitsFrame_55 : decode cX12_fitsFrame 55 = .ok (.aload_n 2, 1) := by decide +kernel
theorem dX12_fitsFrame_56 : decode cX12_fitsFrame 56 = .ok (.iload_n 3, 1) := by decide +kernel
theorem dX12_fitsFrame_57 : decode cX12_fitsFrame 57 = .ok (.iload 5, 2) := by decide +kernel
theorem dX12_fitsFrame_59 : decode cX12_fitsFrame 59 = .ok (.iadd, 1) := by decide +kernel
theorem dX12_fitsFrame_60 : decode cX12_fitsFrame 60 = .ok (.iaload, 1) := by decide +kernel
theorem dX12_fitsFrame_61 : decode cX12_fitsFrame 61 = .ok (.invokevirtual 130, 3) := by decide +kernel
theorem dX12_fitsFrame_64 : decode cX12_fitsFrame 64 = .ok (.istore 4, 2) := by decide +kernel
theorem dX12_fitsFrame_66 : decode cX12_fitsFrame 66 = .ok (.iinc 5 1, 3) := by decide +kernel
theorem dX12_fitsFrame_69 : decode cX12_fitsFrame 69 = .ok (.goto (-33), 3) := by decide +kernel
theorem dX12_fitsFrame_72 : decode cX12_fitsFrame 72 = .ok (.iconst 0, 1) := by decide +kernel
theorem dX12_fitsFrame_73 : decode cX12_fitsFrame 73 = .ok (.istore 5, 2) := by decide +kernel
theorem dX12_fitsFrame_75 : decode cX12_fitsFrame 75 = .ok (.iload 5, 2) := by decide +kernel
theorem dX12_fitsFrame_77 : decode cX12_fitsFrame 77 = .ok (.aload_n 1, 1) := by decide +kernel
theorem dX12_fitsFrame_78 : decode cX12_fitsFrame 78 = .ok (.bipush 24, 2) := by decide +kernel
theorem dX12_fitsFrame_80 : decode cX12_fitsFrame 80 = .ok (.iaload, 1) := by decide +kernel
theorem dX12_fitsFrame_81 : decode cX12_fitsFrame 81 = .ok (.if_icmp .ge 36, 3) := by decide +kernel
theorem dX12_fitsFrame_84 : decode cX12_fitsFrame 84 = .ok (.iload 4, 2) := by decide +kernel
theorem dX12_fitsFrame_86 : decode cX12_fitsFrame 86 = .ok (.ifCond .eq 31, 3) := by decide +kernel
theorem dX12_fitsFrame_89 : decode cX12_fitsFrame 89 = .ok (.aload_n 0, 1) := by decide +kernel
theorem dX12_fitsFrame_90 : decode cX12_fitsFrame 90 = .ok (.aload_n 1, 1) := by decide +kernel
theorem dX12_fitsFrame_91 : decode cX12_fitsFrame 91 = .ok (.bipush 12, 2) := by decide +kernel
theorem dX12_fitsFrame_93 : decode cX12_fitsFrame 93 = .ok (.iload 5, 2) := by decide +kernel
theorem dX12_fitsFrame_95 : decode cX12_fitsFrame 95 = .ok (.iadd, 1) := by decide +kernel
theorem dX12_fitsFrame_96 : decode cX12_fitsFrame 96 = .ok (.iaload, 1) := by decide +kernel
theorem dX12_fitsFrame_97 : decode cX12_fitsFrame 97 = .ok (.aload_n 2, 1) := by decide +kernel
theorem dX12_fitsFrame_98 : decode cX12_fitsFrame 98 = .ok (.iload_n 3, 1) := by decide +kernel
theorem dX12_fitsFrame_99 : decode cX12_fitsFrame 99 = .ok (.bipush 12, 2) := by decide +kernel
theorem dX12_fitsFrame_101 : decode cX12_fitsFrame 101 = .ok (.iadd, 1) := by decide +kernel
theorem dX12_fitsFrame_102 : decode cX12_fitsFrame 102 = .ok (.iload 5, 2) := by decide +kernel
theorem dX12_fitsFrame_104 : decode cX12_fitsFrame 104 = .ok (.iadd, 1) := by decide +kernel
theorem dX12_fitsFrame_105 : decode cX12_fitsFrame 105 = .ok (.iaload, 1) := by decide +kernel
theorem dX12_fitsFrame_106 : decode cX12_fitsFrame 106 = .ok (.invokevirtual 130, 3) := by decide +kernel
theorem dX12_fitsFrame_109 : decode cX12_fitsFrame 109 = .ok (.istore 4, 2) := by decide +kernel
theorem dX12_fitsFrame_111 : decode cX12_fitsFrame 111 = .ok (.iinc 5 1, 3) := by decide +kernel
theorem dX12_fitsFrame_114 : decode cX12_fitsFrame 114 = .ok (.goto (-39), 3) := by decide +kernel
theorem dX12_fitsFrame_117 : decode cX12_fitsFrame 117 = .ok (.iload 4, 2) := by decide +kernel
theorem dX12_fitsFrame_119 : decode cX12_fitsFrame 119 = .ok (.ireturn, 1) := by decide +kernel
theorem dX12_flow_0 : decode cX12_flow 0 = .ok (.aload_n 0, 1) := by decide +kernel
theorem dX12_flow_1 : decode cX12_flow 1 = .ok (.invokevirtual 218, 3) := by decide +kernel
theorem dX12_flow_4 : decode cX12_flow 4 = .ok (.ifCond .ne 4, 3) := by decide +kernel
theorem dX12_flow_7 : decode cX12_flow 7 = .ok (.return_, 1) := by decide +kernel
theorem dX12_flow_8 : decode cX12_flow 8 = .ok (.aload_n 0, 1) := by decide +kernel
theorem dX12_flow_9 : decode cX12_flow 9 = .ok (.getfield 316, 3) := by decide +kernel
theorem dX12_flow_12 : decode cX12_flow 12 = .ok (.ifCond .ne 12, 3) := by decide +kernel
theorem dX12_flow_15 : decode cX12_flow 15 = .ok (.aload_n 0, 1) := by decide +kernel
theorem dX12_flow_16 : decode cX12_flow 16 = .ok (.aload_n 1, 1) := by decide +kernel
theorem dX12_flow_17 : decode cX12_flow 17 = .ok (.iload_n 2, 1) := by decide +kernel
theorem dX12_flow_18 : decode cX12_flow 18 = .ok (.invokevirtual 319, 3) := by decide +kernel
theorem dX12_flow_21 : decode cX12_flow 21 = .ok (.goto 38, 3) := by decide +kernel
theorem dX12_flow_24 : decode cX12_flow 24 = .ok (.aload_n 0, 1) := by decide +kernel
theorem dX12_flow_25 : decode cX12_flow 25 = .ok (.getfield 69, 3) := by decide +kernel
theorem dX12_flow_28 : decode cX12_flow 28 = .ok (.iload_n 2, 1) := by decide +kernel
theorem dX12_flow_29 : decode cX12_flow 29 = .ok (.baload, 1) := by decide +kernel
theorem dX12_flow_30 : decode cX12_flow 30 = .ok (.ifCond .eq 19, 3) := by decide +kernel
theorem dX12_flow_33 : decode cX12_flow 33 = .ok (.aload_n 0, 1) := by decide +kernel
theorem dX12_flow_34 : decode cX12_flow 34 = .ok (.aload_n 1, 1) := by decide +kernel
theorem dX12_flow_35 : decode cX12_flow 35 = .ok (.aload_n 0, 1) := by decide +kernel
theorem dX12_flow_36 : decode cX12_flow 36 = .ok (.getfield 72, 3) := by decide +kernel
theorem dX12_flow_39 : decode cX12_flow 39 = .ok (.bipush 26, 2) := by decide +kernel
theorem dX12_flow_41 : decode cX12_flow 41 = .ok (.iload_n 2, 1) := by decide +kernel
theorem dX12_flow_42 : decode cX12_flow 42 = .ok (.imul, 1) := by decide +kernel
theorem dX12_flow_43 : decode cX12_flow 43 = .ok (.invokevirtual 323, 3) := by decide +kernel
theorem dX12_flow_46 : decode cX12_flow 46 = .ok (.ifCond .ne 13, 3) := by decide +kernel
theorem dX12_flow_49 : decode cX12_flow 49 = .ok (.aload_n 0, 1) := by decide +kernel
theorem dX12_flow_50 : decode cX12_flow 50 = .ok (.bipush 10, 2) := by decide +kernel
theorem dX12_flow_52 : decode cX12_flow 52 = .ok (.aload_n 0, 1) := by decide +kernel
theorem dX12_flow_53 : decode cX12_flow 53 = .ok (.getfield 222, 3) := by decide +kernel
theorem dX12_flow_56 : decode cX12_flow 56 = .ok (.invokevirtual 208, 3) := by decide +kernel
theorem dX12_flow_59 : decode cX12_flow 59 = .ok (.return_, 1) := by decide +kernel
theorem dX12_merge_0 : decode cX12_merge 0 = .ok (.bipush 26, 2) := by decide +kernel
theorem dX12_merge_2 : decode cX12_merge 2 = .ok (.iload_n 2, 1) := by decide +kernel
theorem dX12_merge_3 : decode cX12_merge 3 = .ok (.imul, 1) := by decide +kernel
theorem dX12_merge_4 : decode cX12_merge 4 = .ok (.istore_n 3, 1) := by decide +kernel
theorem dX12_merge_5 : decode cX12_merge 5 = .ok (.aload_n 0, 1) := by decide +kernel
theorem dX12_merge_6 : decode cX12_merge 6 = .ok (.getfield 63, 3) := by decide +kernel
theorem dX12_merge_9 : decode cX12_merge 9 = .ok (.iload_n 2, 1) := by decide +kernel
theorem dX12_merge_10 : decode cX12_merge 10 = .ok (.baload, 1) := by decide +kernel
theorem dX12_merge_11 : decode cX12_merge 11 = .ok (.ifCond .ne 47, 3) := by decide +kernel
theorem dX12_merge_14 : decode cX12_merge 14 = .ok (.iconst 0, 1) := by decide +kernel
theorem dX12_merge_15 : decode cX12_merge 15 = .ok (.istore 4, 2) := by decide +kernel
theorem dX12_merge_17 : decode cX12_merge 17 = .ok (.iload 4, 2) := by decide +kernel
theorem dX12_merge_19 : decode cX12_merge 19 = .ok (.bipush 26, 2) := by decide +kernel
theorem dX12_merge_21 : decode cX12_merge 21 = .ok (.if_icmp .ge 22, 3) := by decide +kernel
theorem dX12_merge_24 : decode cX12_merge 24 = .ok (.aload_n 0, 1) := by decide +kernel
theorem dX12_merge_25 : decode cX12_merge 25 = .ok (.getfield 66, 3) := by decide +kernel
theorem dX12_merge_28 : decode cX12_merge 28 = .ok (.iload_n 3, 1) := by decide +kernel
theorem dX12_merge_29 : decode cX12_merge 29 = .ok (.iload 4, 2) := by decide +kernel
theorem dX12_merge_31 : decode cX12_merge 31 = .ok (.iadd, 1) := by decide +kernel
theorem dX12_merge_32 : decode cX12_merge 32 = .ok (.aload_n 1, 1) := by decide +kernel
theorem dX12_merge_33 : decode cX12_merge 33 = .ok (.iload 4, 2) := by decide +kernel
theorem dX12_merge_35 : decode cX12_merge 35 = .ok (.iaload, 1) := by decide +kernel
theorem dX12_merge_36 : decode cX12_merge 36 = .ok (.iastore, 1) := by decide +kernel
theorem dX12_merge_37 : decode cX12_merge 37 = .ok (.iinc 4 1, 3) := by decide +kernel
theorem dX12_merge_40 : decode cX12_merge 40 = .ok (.goto (-23), 3) := by decide +kernel
theorem dX12_merge_43 : decode cX12_merge 43 = .ok (.aload_n 0, 1) := by decide +kernel
theorem dX12_merge_44 : decode cX12_merge 44 = .ok (.getfield 63, 3) := by decide +kernel
theorem dX12_merge_47 : decode cX12_merge 47 = .ok (.iload_n 2, 1) := by decide +kernel
theorem dX12_merge_48 : decode cX12_merge 48 = .ok (.iconst 1, 1) := by decide +kernel
theorem dX12_merge_49 : decode cX12_merge 49 = .ok (.bastore, 1) := by decide +kernel
theorem dX12_merge_50 : decode cX12_merge 50 = .ok (.aload_n 0, 1) := by decide +kernel
theorem dX12_merge_51 : decode cX12_merge 51 = .ok (.getfield 87, 3) := by decide +kernel
theorem dX12_merge_54 : decode cX12_merge 54 = .ok (.iload_n 2, 1) := by decide +kernel
theorem dX12_merge_55 : decode cX12_merge 55 = .ok (.iconst 1, 1) := by decide +kernel
theorem dX12_merge_56 : decode cX12_merge 56 = .ok (.bastore, 1) := by decide +kernel
theorem dX12_merge_57 : decode cX12_merge 57 = .ok (.return_, 1) := by decide +kernel
theorem dX12_merge_58 : decode cX12_merge 58 = .ok (.aload_n 1, 1) := by decide +kernel
theorem dX12_merge_59 : decode cX12_merge 59 = .ok (.bipush 24, 2) := by decide +kernel
theorem dX12_merge_61 : decode cX12_merge 61 = .ok (.iaload, 1) := by decide +kernel
theorem dX12_merge_62 : decode cX12_merge 62 = .ok (.aload_n 0, 1) := by decide +kernel
theorem dX12_merge_63 : decode cX12_merge 63 = .ok (.getfield 66, 3) := by decide +kernel
theorem dX12_merge_66 : decode cX12_merge 66 = .ok (.iload_n 3, 1) := by decide +kernel
theorem dX12_merge_67 : decode cX12_merge 67 = .ok (.bipush 24, 2) := by decide +kernel
theorem dX12_merge_69 : decode cX12_merge 69 = .ok (.iadd, 1) := by decide +kernel
theorem dX12_merge_70 : decode cX12_merge 70 = .ok (.iaload, 1) := by decide +kernel
theorem dX12_merge_71 : decode cX12_merge 71 = .ok (.if_icmp .ne 7, 3) := by decide +kernel
theorem dX12_merge_74 : decode cX12_merge 74 = .ok (.iconst 1, 1) := by decide +kernel
theorem dX12_merge_75 : decode cX12_merge 75 = .ok (.goto 4, 3) := by decide +kernel
theorem dX12_merge_78 : decode cX12_merge 78 = .ok (.iconst 0, 1) := by decide +kernel
theorem dX12_merge_79 : decode cX12_merge 79 = .ok (.istore 4, 2) := by decide +kernel
theorem dX12_merge_81 : decode cX12_merge 81 = .ok (.bipush 12, 2) := by decide +kernel
theorem dX12_merge_83 : decode cX12_merge 83 = .ok (.istore 5, 2) := by decide +kernel
theorem dX12_merge_85 : decode cX12_merge 85 = .ok (.iload 5, 2) := by decide +kernel
theorem dX12_merge_87 : decode cX12_merge 87 = .ok (.bipush 12, 2) := by decide +kernel
theorem dX12_merge_89 : decode cX12_merge 89 = .ok (.aload_n 1, 1) := by decide +kernel
theorem dX12_merge_90 : decode cX12_merge 90 = .ok (.bipush 24, 2) := by decide +kernel
theorem dX12_merge_92 : decode cX12_merge 92 = .ok (.iaload, 1) := by decide +kernel
theorem dX12_merge_93 : decode cX12_merge 93 = .ok (.iadd, 1) := by decide +kernel
theorem dX12_merge_94 : decode cX12_merge 94 = .ok (.if_icmp .ge 59, 3) := by decide +kernel
theorem dX12_merge_97 : decode cX12_merge 97 = .ok (.iload 4, 2) := by decide +kernel
theorem dX12_merge_99 : decode cX12_merge 99 = .ok (.ifCond .eq 54, 3) := by decide +kernel
theorem dX12_merge_102 : decode cX12_merge 102 = .ok (.aload_n 1, 1) := by decide +kernel
theorem dX12_merge_103 : decode cX12_merge 103 = .ok (.iload 5, 2) := by decide +kernel
theorem dX12_merge_105 : decode cX12_merge 105 = .ok (.iaload, 1) := by decide +kernel
theorem dX12_merge_106 : decode cX12_merge 106 = .ok (.aload_n 0, 1) := by decide +kernel
theorem dX12_merge_107 : decode cX12_merge 107 = .ok (.getfield 66, 3) := by decide +kernel
theorem dX12_merge_110 : decode cX12_merge 110 = .ok (.iload_n 3, 1) := by decide +kernel
theorem dX12_merge_111 : decode cX12_merge 111 = .ok (.iload 5, 2) := by decide +kernel
theorem dX12_merge_113 : decode cX12_merge 113 = .ok (.iadd, 1) := by decide +kernel
theorem dX12_merge_114 : decode cX12_merge 114 = .ok (.iaload, 1) := by decide +kernel
theorem dX12_merge_115 : decode cX12_merge 115 = .ok (.if_icmp .eq 25, 3) := by decide +kernel
theorem dX12_merge_118 : decode cX12_merge 118 = .ok (.aload_n 0, 1) := by decide +kernel
theorem dX12_merge_119 : decode cX12_merge 119 = .ok (.aload_n 1, 1) := by decide +kernel
theorem dX12_merge_120 : decode cX12_merge 120 = .ok (.iload 5, 2) := by decide +kernel
theorem dX12_merge_122 : decode cX12_merge 122 = .ok (.iaload, 1) := by decide +kernel
theorem dX12_merge_123 : decode cX12_merge 123 = .ok (.aload_n 0, 1) := by decide +kernel
theorem dX12_merge_124 : decode cX12_merge 124 = .ok (.getfield 66, 3) := by decide +kernel
theorem dX12_merge_127 : decode cX12_merge 127 = .ok (.iload_n 3, 1) := by decide +kernel
theorem dX12_merge_128 : decode cX12_merge 128 = .ok (.iload 5, 2) := by decide +kernel
theorem dX12_merge_130 : decode cX12_merge 130 = .ok (.iadd, 1) := by decide +kernel
theorem dX12_merge_131 : decode cX12_merge 131 = .ok (.iaload, 1) := by decide +kernel
theorem dX12_merge_132 : decode cX12_merge 132 = .ok (.invokevirtual 133, 3) := by decide +kernel
theorem dX12_merge_135 : decode cX12_merge 135 = .ok (.bipush (-2), 2) := by decide +kernel
theorem dX12_merge_137 : decode cX12_merge 137 = .ok (.if_icmp .eq 7, 3) := by decide +kernel
theorem dX12_merge_140 : decode cX12_merge 140 = .ok (.iconst 1, 1) := by decide +kernel
theorem dX12_merge_141 : decode cX12_merge 141 = .ok (.goto 4, 3) := by decide +kernel
theorem dX12_merge_144 : decode cX12_merge 144 = .ok (.iconst 0, 1) := by decide +kernel
theorem dX12_merge_145 : decode cX12_merge 145 = .ok (.istore 4, 2) := by decide +kernel
theorem dX12_merge_147 : decode cX12_merge 147 = .ok (.iinc 5 1, 3) := by decide +kernel
theorem dX12_merge_150 : decode cX12_merge 150 = .ok (.goto (-65), 3) := by decide +kernel
theorem dX12_merge_153 : decode cX12_merge 153 = .ok (.iload 4, 2) := by decide +kernel
theorem dX12_merge_155 : decode cX12_merge 155 = .ok (.ifCond .ne 14, 3) := by decide +kernel
theorem dX12_merge_158 : decode cX12_merge 158 = .ok (.aload_n 0, 1) := by decide +kernel
theorem dX12_merge_159 : decode cX12_merge 159 = .ok (.bipush 8, 2) := by decide +kernel
theorem dX12_merge_161 : decode cX12_merge 161 = .ok (.aload_n 0, 1) := by decide +kernel
theorem dX12_merge_162 : decode cX12_merge 162 = .ok (.getfield 222, 3) := by decide +kernel
theorem dX12_merge_165 : decode cX12_merge 165 = .ok (.invokevirtual 208, 3) := by decide +kernel
theorem dX12_merge_168 : decode cX12_merge 168 = .ok (.return_, 1) := by decide +kernel
theorem dX12_merge_169 : decode cX12_merge 169 = .ok (.iconst 0, 1) := by decide +kernel
theorem dX12_merge_170 : decode cX12_merge 170 = .ok (.istore 5, 2) := by decide +kernel
theorem dX12_merge_172 : decode cX12_merge 172 = .ok (.iload 5, 2) := by decide +kernel
theorem dX12_merge_174 : decode cX12_merge 174 = .ok (.bipush 12, 2) := by decide +kernel
theorem dX12_merge_176 : decode cX12_merge 176 = .ok (.aload_n 1, 1) := by decide +kernel
theorem dX12_merge_177 : decode cX12_merge 177 = .ok (.bipush 24, 2) := by decide +kernel
theorem dX12_merge_179 : decode cX12_merge 179 = .ok (.iaload, 1) := by decide +kernel
theorem dX12_merge_180 : decode cX12_merge 180 = .ok (.iadd, 1) := by decide +kernel
theorem dX12_merge_181 : decode cX12_merge 181 = .ok (.if_icmp .ge 86, 3) := by decide +kernel
theorem dX12_merge_184 : decode cX12_merge 184 = .ok (.iload 5, 2) := by decide +kernel
theorem dX12_merge_186 : decode cX12_merge 186 = .ok (.aload_n 0, 1) := by decide +kernel
theorem dX12_merge_187 : decode cX12_merge 187 = .ok (.getfield 162, 3) := by decide +kernel
theorem dX12_merge_190 : decode cX12_merge 190 = .ok (.if_icmp .lt 13, 3) := by decide +kernel
theorem dX12_merge_193 : decode cX12_merge 193 = .ok (.iload 5, 2) := by decide +kernel
theorem dX12_merge_195 : decode cX12_merge 195 = .ok (.bipush 12, 2) := by decide +kernel
theorem dX12_merge_197 : decode cX12_merge 197 = .ok (.if_icmp .ge 6, 3) := by decide +kernel
theorem dX12_merge_200 : decode cX12_merge 200 = .ok (.goto 61, 3) := by decide +kernel
theorem dX12_merge_203 : decode cX12_merge 203 = .ok (.aload_n 0, 1) := by decide +kernel
theorem dX12_merge_204 : decode cX12_merge 204 = .ok (.aload_n 0, 1) := by decide +kernel
theorem dX12_merge_205 : decode cX12_merge 205 = .ok (.getfield 66, 3) := by decide +kernel
theorem dX12_merge_208 : decode cX12_merge 208 = .ok (.iload_n 3, 1) := by decide +kernel
theorem dX12_merge_209 : decode cX12_merge 209 = .ok (.iload 5, 2) := by decide +kernel
theorem dX12_merge_211 : decode cX12_merge 211 = .ok (.iadd, 1) := by decide +kernel
theorem dX12_merge_212 : decode cX12_merge 212 = .ok (.iaload, 1) := by decide +kernel
theorem dX12_merge_213 : decode cX12_merge 213 = .ok (.aload_n 1, 1) := by decide +kernel
theorem dX12_merge_214 : decode cX12_merge 214 = .ok (.iload 5, 2) := by decide +kernel
theorem dX12_merge_216 : decode cX12_merge 216 = .ok (.iaload, 1) := by decide +kernel
theorem dX12_merge_217 : decode cX12_merge 217 = .ok (.invokevirtual 133, 3) := by decide +kernel
theorem dX12_merge_220 : decode cX12_merge 220 = .ok (.istore 6, 2) := by decide +kernel
theorem dX12_merge_222 : decode cX12_merge 222 = .ok (.aload_n 0, 1) := by decide +kernel
theorem dX12_merge_223 : decode cX12_merge 223 = .ok (.getfield 87, 3) := by decide +kernel
theorem dX12_merge_226 : decode cX12_merge 226 = .ok (.iload_n 2, 1) := by decide +kernel
theorem dX12_merge_227 : decode cX12_merge 227 = .ok (.dup2, 1) := by decide +kernel
theorem dX12_merge_228 : decode cX12_merge 228 = .ok (.baload, 1) := by decide +kernel
theorem dX12_merge_229 : decode cX12_merge 229 = .ok (.iload 6, 2) := by decide +kernel
theorem dX12_merge_231 : decode cX12_merge 231 = .ok (.aload_n 0, 1) := by decide +kernel
theorem dX12_merge_232 : decode cX12_merge 232 = .ok (.getfield 66, 3) := by decide +kernel
theorem dX12_merge_235 : decode cX12_merge 235 = .ok (.iload_n 3, 1) := by decide +kernel
theorem dX12_merge_236 : decode cX12_merge 236 = .ok (.iload 5, 2) := by decide +kernel
theorem dX12_merge_238 : decode cX12_merge 238 = .ok (.iadd, 1) := by decide +kernel
theorem dX12_merge_239 : decode cX12_merge 239 = .ok (.iaload, 1) := by decide +kernel
theorem dX12_merge_240 : decode cX12_merge 240 = .ok (.if_icmp .eq 7, 3) := by decide +kernel
theorem dX12_merge_243 : decode cX12_merge 243 = .ok (.iconst 1, 1) := by decide +kernel
theorem dX12_merge_244 : decode cX12_merge 244 = .ok (.goto 4, 3) := by decide +kernel
theorem dX12_merge_247 : decode cX12_merge 247 = .ok (.iconst 0, 1) := by decide +kernel
theorem dX12_merge_248 : decode cX12_merge 248 = .ok (.ior, 1) := by decide +kernel
theorem dX12_merge_249 : decode cX12_merge 249 = .ok (.bastore, 1) := by decide +kernel
theorem dX12_merge_250 : decode cX12_merge 250 = .ok (.aload_n 0, 1) := by decide +kernel
theorem dX12_merge_251 : decode cX12_merge 251 = .ok (.getfield 66, 3) := by decide +kernel
theorem dX12_merge_254 : decode cX12_merge 254 = .ok (.iload_n 3, 1) := by decide +kernel
theorem dX12_merge_255 : decode cX12_merge 255 = .ok (.iload 5, 2) := by decide +kernel
theorem dX12_merge_257 : decode cX12_merge 257 = .ok (.iadd, 1) := by decide +kernel
theorem dX12_merge_258 : decode cX12_merge 258 = .ok (.iload 6, 2) := by decide +kernel
theorem dX12_merge_260 : decode cX12_merge 260 = .ok (.iastore, 1) := by decide +kernel
theorem dX12_merge_261 : decode cX12_merge 261 = .ok (.iinc 5 1, 3) := by decide +kernel
theorem dX12_merge_264 : decode cX12_merge 264 = .ok (.goto (-92), 3) := by decide +kernel
theorem dX12_merge_267 : decode cX12_merge 267 = .ok (.aload_n 0, 1) := by decide +kernel
theorem dX12_merge_268 : decode cX12_merge 268 = .ok (.getfield 87, 3) := by decide +kernel
theorem dX12_merge_271 : decode cX12_merge 271 = .ok (.iload_n 2, 1) := by decide +kernel
theorem dX12_merge_272 : decode cX12_merge 272 = .ok (.dup2, 1) := by decide +kernel
theorem dX12_merge_273 : decode cX12_merge 273 = .ok (.baload, 1) := by decide +kernel
theorem dX12_merge_274 : decode cX12_merge 274 = .ok (.aload_n 1, 1) := by decide +kernel
theorem dX12_merge_275 : decode cX12_merge 275 = .ok (.bipush 25, 2) := by decide +kernel
theorem dX12_merge_277 : decode cX12_merge 277 = .ok (.iaload, 1) := by decide +kernel
theorem dX12_merge_278 : decode cX12_merge 278 = .ok (.aload_n 0, 1) := by decide +kernel
theorem dX12_merge_279 : decode cX12_merge 279 = .ok (.getfield 66, 3) := by decide +kernel
theorem dX12_merge_282 : decode cX12_merge 282 = .ok (.iload_n 3, 1) := by decide +kernel
theorem dX12_merge_283 : decode cX12_merge 283 = .ok (.bipush 25, 2) := by decide +kernel
theorem dX12_merge_285 : decode cX12_merge 285 = .ok (.iadd, 1) := by decide +kernel
theorem dX12_merge_286 : decode cX12_merge 286 = .ok (.iaload, 1) := by decide +kernel
theorem dX12_merge_287 : decode cX12_merge 287 = .ok (.if_icmp .le 7, 3) := by decide +kernel
theorem dX12_merge_290 : decode cX12_merge 290 = .ok (.iconst 1, 1) := by decide +kernel
theorem dX12_merge_291 : decode cX12_merge 291 = .ok (.goto 4, 3) := by decide +kernel
theorem dX12_merge_294 : decode cX12_merge 294 = .ok (.iconst 0, 1) := by decide +kernel
theorem dX12_merge_295 : decode cX12_merge 295 = .ok (.ior, 1) := by decide +kernel
theorem dX12_merge_296 : decode cX12_merge 296 = .ok (.bastore, 1) := by decide +kernel
theorem dX12_merge_297 : decode cX12_merge 297 = .ok (.aload_n 0, 1) := by decide +kernel
theorem dX12_merge_298 : decode cX12_merge 298 = .ok (.getfield 66, 3) := by decide +kernel
theorem dX12_merge_301 : decode cX12_merge 301 = .ok (.iload_n 3, 1) := by decide +kernel
theorem dX12_merge_302 : decode cX12_merge 302 = .ok (.bipush 25, 2) := by decide +kernel
theorem dX12_merge_304 : decode cX12_merge 304 = .ok (.iadd, 1) := by decide +kernel
theorem dX12_merge_305 : decode cX12_merge 305 = .ok (.aload_n 0, 1) := by decide +kernel
theorem dX12_merge_306 : decode cX12_merge 306 = .ok (.getfield 66, 3) := by decide +kernel
theorem dX12_merge_309 : decode cX12_merge 309 = .ok (.iload_n 3, 1) := by decide +kernel
theorem dX12_merge_310 : decode cX12_merge 310 = .ok (.bipush 25, 2) := by decide +kernel
theorem dX12_merge_312 : decode cX12_merge 312 = .ok (.iadd, 1) := by decide +kernel
theorem dX12_merge_313 : decode cX12_merge 313 = .ok (.iaload, 1) := by decide +kernel
theorem dX12_merge_314 : decode cX12_merge 314 = .ok (.aload_n 1, 1) := by decide +kernel
theorem dX12_merge_315 : decode cX12_merge 315 = .ok (.bipush 25, 2) := by decide +kernel
theorem dX12_merge_317 : decode cX12_merge 317 = .ok (.iaload, 1) := by decide +kernel
theorem dX12_merge_318 : decode cX12_merge 318 = .ok (.invokestatic 327, 3) := by decide +kernel
theorem dX12_merge_321 : decode cX12_merge 321 = .ok (.iastore, 1) := by decide +kernel
theorem dX12_merge_322 : decode cX12_merge 322 = .ok (.return_, 1) := by decide +kernel
theorem dX12_process_0 : decode cX12_process 0 = .ok (.aload_n 0, 1) := by decide +kernel
theorem dX12_process_1 : decode cX12_process 1 = .ok (.iload_n 1, 1) := by decide +kernel
theorem dX12_process_2 : decode cX12_process 2 = .ok (.putfield 222, 3) := by decide +kernel
theorem dX12_process_5 : decode cX12_process 5 = .ok (.aload_n 0, 1) := by decide +kernel
theorem dX12_process_6 : decode cX12_process 6 = .ok (.dup, 1) := by decide +kernel
theorem dX12_process_7 : decode cX12_process 7 = .ok (.getfield 205, 3) := by decide +kernel
theorem dX12_process_10 : decode cX12_process 10 = .ok (.iconst 1, 1) := by decide +kernel
theorem dX12_process_11 : decode cX12_process 11 = .ok (.iadd, 1) := by decide +kernel
theorem dX12_process_12 : decode cX12_process 12 = .ok (.putfield 205, 3) := by decide +kernel
theorem dX12_process_15 : decode cX12_process 15 = .ok (.iconst 0, 1) := by decide +kernel
theorem dX12_process_16 : decode cX12_process 16 = .ok (.istore_n 2, 1) := by decide +kernel
theorem dX12_process_17 : decode cX12_process 17 = .ok (.iload_n 2, 1) := by decide +kernel
theorem dX12_process_18 : decode cX12_process 18 = .ok (.aload_n 0, 1) := by decide +kernel
theorem dX12_process_19 : decode cX12_process 19 = .ok (.getfield 168, 3) := by decide +kernel
theorem dX12_process_22 : decode cX12_process 22 = .ok (.if_icmp .ge 134, 3) := by decide +kernel
theorem dX12_process_25 : decode cX12_process 25 = .ok (.aload_n 0, 1) := by decide +kernel
theorem dX12_process_26 : decode cX12_process 26 = .ok (.invokevirtual 218, 3) := by decide +kernel
theorem dX12_process_29 : decode cX12_process 29 = .ok (.ifCond .eq 127, 3) := by decide +kernel
theorem dX12_process_32 : decode cX12_process 32 = .ok (.iload_n 1, 1) := by decide +kernel
theorem dX12_process_33 : decode cX12_process 33 = .ok (.aload_n 0, 1) := by decide +kernel
theorem dX12_process_34 : decode cX12_process 34 = .ok (.getfield 51, 3) := by decide +kernel
theorem dX12_process_37 : decode cX12_process 37 = .ok (.iload_n 2, 1) := by decide +kernel
theorem dX12_process_38 : decode cX12_process 38 = .ok (.iaload, 1) := by decide +kernel
theorem dX12_process_39 : decode cX12_process 39 = .ok (.if_icmp .lt 111, 3) := by decide +kernel
theorem dX12_process_42 : decode cX12_process 42 = .ok (.iload_n 1, 1) := by decide +kernel
theorem dX12_process_43 : decode cX12_process 43 = .ok (.aload_n 0, 1) := by decide +kernel
theorem dX12_process_44 : decode cX12_process 44 = .ok (.getfield 54, 3) := by decide +kernel
theorem dX12_process_47 : decode cX12_process 47 = .ok (.iload_n 2, 1) := by decide +kernel
theorem dX12_process_48 : decode cX12_process 48 = .ok (.iaload, 1) := by decide +kernel
theorem dX12_process_49 : decode cX12_process 49 = .ok (.if_icmp .lt 6, 3) := by decide +kernel
theorem dX12_process_52 : decode cX12_process 52 = .ok (.goto 98, 3) := by decide +kernel
theorem dX12_process_55 : decode cX12_process 55 = .ok (.aload_n 0, 1) := by decide +kernel
theorem dX12_process_56 : decode cX12_process 56 = .ok (.getfield 159, 3) := by decide +kernel
theorem dX12_process_59 : decode cX12_process 59 = .ok (.ifCond .ne 10, 3) := by decide +kernel
theorem dX12_process_62 : decode cX12_process 62 = .ok (.aload_n 0, 1) := by decide +kernel
theorem dX12_process_63 : decode cX12_process 63 = .ok (.bipush 6, 2) := by decide +kernel
theorem dX12_process_65 : decode cX12_process 65 = .ok (.iload_n 1, 1) := by decide +kernel
theorem dX12_process_66 : decode cX12_process 66 = .ok (.invokevirtual 208, 3) := by decide +kernel
theorem dX12_process_69 : decode cX12_process 69 = .ok (.iconst 0, 1) := by decide +kernel
theorem dX12_process_70 : decode cX12_process 70 = .ok (.istore_n 3, 1) := by decide +kernel
theorem dX12_process_71 : decode cX12_process 71 = .ok (.iload_n 3, 1) := by decide +kernel
theorem dX12_process_72 : decode cX12_process 72 = .ok (.bipush 26, 2) := by decide +kernel
theorem dX12_process_74 : decode cX12_process 74 = .ok (.if_icmp .ge 38, 3) := by decide +kernel
theorem dX12_process_77 : decode cX12_process 77 = .ok (.aload_n 0, 1) := by decide +kernel
theorem dX12_process_78 : decode cX12_process 78 = .ok (.getfield 84, 3) := by decide +kernel
theorem dX12_process_81 : decode cX12_process 81 = .ok (.iload_n 3, 1) := by decide +kernel
theorem dX12_process_82 : decode cX12_process 82 = .ok (.iload_n 3, 1) := by decide +kernel
theorem dX12_process_83 : decode cX12_process 83 = .ok (.bipush 12, 2) := by decide +kernel
theorem dX12_process_85 : decode cX12_process 85 = .ok (.if_icmp .lt 14, 3) := by decide +kernel
theorem dX12_process_88 : decode cX12_process 88 = .ok (.iload_n 3, 1) := by decide +kernel
theorem dX12_process_89 : decode cX12_process 89 = .ok (.bipush 24, 2) := by decide +kernel
theorem dX12_process_91 : decode cX12_process 91 = .ok (.if_icmp .ge 8, 3) := by decide +kernel
theorem dX12_process_94 : decode cX12_process 94 = .ok (.bipush (-2), 2) := by decide +kernel
theorem dX12_process_96 : decode cX12_process 96 = .ok (.goto 9, 3) := by decide +kernel
theorem dX12_process_99 : decode cX12_process 99 = .ok (.aload_n 0, 1) := by decide +kernel
theorem dX12_process_100 : decode cX12_process 100 = .ok (.getfield 81, 3) := by decide +kernel
theorem dX12_process_103 : decode cX12_process 103 = .ok (.iload_n 3, 1) := by decide +kernel
theorem dX12_process_104 : decode cX12_process 104 = .ok (.iaload, 1) := by decide +kernel
theorem dX12_process_105 : decode cX12_process 105 = .ok (.iastore, 1) := by decide +kernel
theorem dX12_process_106 : decode cX12_process 106 = .ok (.iinc 3 1, 3) := by decide +kernel
theorem dX12_process_109 : decode cX12_process 109 = .ok (.goto (-38), 3) := by decide +kernel
theorem dX12_process_112 : decode cX12_process 112 = .ok (.aload_n 0, 1) := by decide +kernel
theorem dX12_process_113 : decode cX12_process 113 = .ok (.getfield 84, 3) := by decide +kernel
theorem dX12_process_116 : decode cX12_process 116 = .ok (.bipush 12, 2) := by decide +kernel
theorem dX12_process_118 : decode cX12_process 118 = .ok (.bipush 8, 2) := by decide +kernel
theorem dX12_process_120 : decode cX12_process 120 = .ok (.aload_n 0, 1) := by decide +kernel
theorem dX12_process_121 : decode cX12_process 121 = .ok (.getfield 60, 3) := by decide +kernel
theorem dX12_process_124 : decode cX12_process 124 = .ok (.iload_n 2, 1) := by decide +kernel
theorem dX12_process_125 : decode cX12_process 125 = .ok (.iaload, 1) := by decide +kernel
theorem dX12_process_126 : decode cX12_process 126 = .ok (.imul, 1) := by decide +kernel
theorem dX12_process_127 : decode cX12_process 127 = .ok (.iastore, 1) := by decide +kernel
theorem dX12_process_128 : decode cX12_process 128 = .ok (.aload_n 0, 1) := by decide +kernel
theorem dX12_process_129 : decode cX12_process 129 = .ok (.getfield 84, 3) := by decide +kernel
theorem dX12_process_132 : decode cX12_process 132 = .ok (.bipush 24, 2) := by decide +kernel
theorem dX12_process_134 : decode cX12_process 134 = .ok (.iconst 1, 1) := by decide +kernel
theorem dX12_process_135 : decode cX12_process 135 = .ok (.iastore, 1) := by decide +kernel
theorem dX12_process_136 : decode cX12_process 136 = .ok (.aload_n 0, 1) := by decide +kernel
theorem dX12_process_137 : decode cX12_process 137 = .ok (.aload_n 0, 1) := by decide +kernel
theorem dX12_process_138 : decode cX12_process 138 = .ok (.getfield 84, 3) := by decide +kernel
theorem dX12_process_141 : decode cX12_process 141 = .ok (.aload_n 0, 1) := by decide +kernel
theorem dX12_process_142 : decode cX12_process 142 = .ok (.getfield 57, 3) := by decide +kernel
theorem dX12_process_145 : decode cX12_process 145 = .ok (.iload_n 2, 1) := by decide +kernel
theorem dX12_process_146 : decode cX12_process 146 = .ok (.iaload, 1) := by decide +kernel
theorem dX12_process_147 : decode cX12_process 147 = .ok (.invokevirtual 332, 3) := by decide +kernel
theorem dX12_process_150 : decode cX12_process 150 = .ok (.iinc 2 1, 3) := by decide +kernel
theorem dX12_process_153 : decode cX12_process 153 = .ok (.goto (-136), 3) := by decide +kernel
theorem dX12_process_156 : decode cX12_process 156 = .ok (.aload_n 0, 1) := by decide +kernel
theorem dX12_process_157 : decode cX12_process 157 = .ok (.invokevirtual 218, 3) := by decide +kernel
theorem dX12_process_160 : decode cX12_process 160 = .ok (.ifCond .eq 7, 3) := by decide +kernel
theorem dX12_process_163 : decode cX12_process 163 = .ok (.aload_n 0, 1) := by decide +kernel
theorem dX12_process_164 : decode cX12_process 164 = .ok (.invokevirtual 335, 3) := by decide +kernel
theorem dX12_process_167 : decode cX12_process 167 = .ok (.aload_n 0, 1) := by decide +kernel
theorem dX12_process_168 : decode cX12_process 168 = .ok (.invokevirtual 218, 3) := by decide +kernel
theorem dX12_process_171 : decode cX12_process 171 = .ok (.ifCond .eq 61, 3) := by decide +kernel
theorem dX12_process_174 : decode cX12_process 174 = .ok (.aload_n 0, 1) := by decide +kernel
theorem dX12_process_175 : decode cX12_process 175 = .ok (.getfield 45, 3) := by decide +kernel
theorem dX12_process_178 : decode cX12_process 178 = .ok (.iload_n 1, 1) := by decide +kernel
theorem dX12_process_179 : decode cX12_process 179 = .ok (.iaload, 1) := by decide +kernel
theorem dX12_process_180 : decode cX12_process 180 = .ok (.invokestatic 199, 3) := by decide +kernel
theorem dX12_process_183 : decode cX12_process 183 = .ok (.ifCond .eq 49, 3) := by decide +kernel
theorem dX12_process_186 : decode cX12_process 186 = .ok (.iload_n 1, 1) := by decide +kernel
theorem dX12_process_187 : decode cX12_process 187 = .ok (.iconst 1, 1) := by decide +kernel
theorem dX12_process_188 : decode cX12_process 188 = .ok (.iadd, 1) := by decide +kernel
theorem dX12_process_189 : decode cX12_process 189 = .ok (.aload_n 0, 1) := by decide +kernel
theorem dX12_process_190 : decode cX12_process 190 = .ok (.getfield 165, 3) := by decide +kernel
theorem dX12_process_193 : decode cX12_process 193 = .ok (.if_icmp .ne 13, 3) := by decide +kernel
theorem dX12_process_196 : decode cX12_process 196 = .ok (.aload_n 0, 1) := by decide +kernel
theorem dX12_process_197 : decode cX12_process 197 = .ok (.bipush 7, 2) := by decide +kernel
theorem dX12_process_199 : decode cX12_process 199 = .ok (.iload_n 1, 1) := by decide +kernel
theorem dX12_process_200 : decode cX12_process 200 = .ok (.invokevirtual 208, 3) := by decide +kernel
theorem dX12_process_203 : decode cX12_process 203 = .ok (.goto 29, 3) := by decide +kernel
theorem dX12_process_206 : decode cX12_process 206 = .ok (.aload_n 0, 1) := by decide +kernel
theorem dX12_process_207 : decode cX12_process 207 = .ok (.getfield 316, 3) := by decide +kernel
theorem dX12_process_210 : decode cX12_process 210 = .ok (.ifCond .eq 11, 3) := by decide +kernel
theorem dX12_process_213 : decode cX12_process 213 = .ok (.aload_n 0, 1) := by decide +kernel
theorem dX12_process_214 : decode cX12_process 214 = .ok (.iconst 1, 1) := by decide +kernel
theorem dX12_process_215 : decode cX12_process 215 = .ok (.putfield 338, 3) := by decide +kernel
theorem dX12_process_218 : decode cX12_process 218 = .ok (.goto 14, 3) := by decide +kernel
theorem dX12_process_221 : decode cX12_process 221 = .ok (.aload_n 0, 1) := by decide +kernel
theorem dX12_process_222 : decode cX12_process 222 = .ok (.aload_n 0, 1) := by decide +kernel
theorem dX12_process_223 : decode cX12_process 223 = .ok (.getfield 81, 3) := by decide +kernel
theorem dX12_process_226 : decode cX12_process 226 = .ok (.iload_n 1, 1) := by decide +kernel
theorem dX12_process_227 : decode cX12_process 227 = .ok (.iconst 1, 1) := by decide +kernel
theorem dX12_process_228 : decode cX12_process 228 = .ok (.iadd, 1) := by decide +kernel
theorem dX12_process_229 : decode cX12_process 229 = .ok (.invokevirtual 319, 3) := by decide +kernel
theorem dX12_process_232 : decode cX12_process 232 = .ok (.aload_n 0, 1) := by decide +kernel
theorem dX12_process_233 : decode cX12_process 233 = .ok (.getfield 45, 3) := by decide +kernel
theorem dX12_process_236 : decode cX12_process 236 = .ok (.iload_n 1, 1) := by decide +kernel
theorem dX12_process_237 : decode cX12_process 237 = .ok (.iaload, 1) := by decide +kernel
theorem dX12_process_238 : decode cX12_process 238 = .ok (.invokestatic 192, 3) := by decide +kernel
theorem dX12_process_241 : decode cX12_process 241 = .ok (.ifCond .eq 17, 3) := by decide +kernel
theorem dX12_process_244 : decode cX12_process 244 = .ok (.aload_n 0, 1) := by decide +kernel
theorem dX12_process_245 : decode cX12_process 245 = .ok (.aload_n 0, 1) := by decide +kernel
theorem dX12_process_246 : decode cX12_process 246 = .ok (.getfield 81, 3) := by decide +kernel
theorem dX12_process_249 : decode cX12_process 249 = .ok (.aload_n 0, 1) := by decide +kernel
theorem dX12_process_250 : decode cX12_process 250 = .ok (.getfield 48, 3) := by decide +kernel
theorem dX12_process_253 : decode cX12_process 253 = .ok (.iload_n 1, 1) := by decide +kernel
theorem dX12_process_254 : decode cX12_process 254 = .ok (.iaload, 1) := by decide +kernel
theorem dX12_process_255 : decode cX12_process 255 = .ok (.invokevirtual 332, 3) := by decide +kernel
theorem dX12_process_258 : decode cX12_process 258 = .ok (.return_, 1) := by decide +kernel
theorem dX12_infer_0 : decode cX12_infer 0 = .ok (.aload_n 0, 1) := by decide +kernel
theorem dX12_infer_1 : decode cX12_infer 1 = .ok (.iconst 0, 1) := by decide +kernel
theorem dX12_infer_2 : decode cX12_infer 2 = .ok (.putfield 90, 3) := by decide +kernel
theorem dX12_infer_5 : decode cX12_infer 5 = .ok (.aload_n 0, 1) := by decide +kernel
theorem dX12_infer_6 : decode cX12_infer 6 = .ok (.getfield 152, 3) := by decide +kernel
theorem dX12_infer_9 : decode cX12_infer 9 = .ok (.ifCond .ne 9, 3) := by decide +kernel
theorem dX12_infer_12 : decode cX12_infer 12 = .ok (.aload_n 0, 1) := by decide +kernel
theorem dX12_infer_13 : decode cX12_infer 13 = .ok (.iconst 1, 1) := by decide +kernel
theorem dX12_infer_14 : decode cX12_infer 14 = .ok (.invokevirtual 126, 3) := by decide +kernel
theorem dX12_infer_17 : decode cX12_infer 17 = .ok (.ireturn, 1) := by decide +kernel
theorem dX12_infer_18 : decode cX12_infer 18 = .ok (.aload_n 0, 1) := by decide +kernel
theorem dX12_infer_19 : decode cX12_infer 19 = .ok (.invokevirtual 171, 3) := by decide +kernel
theorem dX12_infer_22 : decode cX12_infer 22 = .ok (.aload_n 0, 1) := by decide +kernel
theorem dX12_infer_23 : decode cX12_infer 23 = .ok (.iconst 0, 1) := by decide +kernel
theorem dX12_infer_24 : decode cX12_infer 24 = .ok (.putfield 316, 3) := by decide +kernel
theorem dX12_infer_27 : decode cX12_infer 27 = .ok (.aload_n 0, 1) := by decide +kernel
theorem dX12_infer_28 : decode cX12_infer 28 = .ok (.invokevirtual 341, 3) := by decide +kernel
theorem dX12_infer_31 : decode cX12_infer 31 = .ok (.aload_n 0, 1) := by decide +kernel
theorem dX12_infer_32 : decode cX12_infer 32 = .ok (.invokevirtual 218, 3) := by decide +kernel
theorem dX12_infer_35 : decode cX12_infer 35 = .ok (.ifCond .eq 7, 3) := by decide +kernel
theorem dX12_infer_38 : decode cX12_infer 38 = .ok (.aload_n 0, 1) := by decide +kernel
theorem dX12_infer_39 : decode cX12_infer 39 = .ok (.invokevirtual 344, 3) := by decide +kernel
theorem dX12_infer_42 : decode cX12_infer 42 = .ok (.aload_n 0, 1) := by decide +kernel
theorem dX12_infer_43 : decode cX12_infer 43 = .ok (.invokevirtual 218, 3) := by decide +kernel
theorem dX12_infer_46 : decode cX12_infer 46 = .ok (.ifCond .ne 10, 3) := by decide +kernel
theorem dX12_infer_49 : decode cX12_infer 49 = .ok (.aload_n 0, 1) := by decide +kernel
theorem dX12_infer_50 : decode cX12_infer 50 = .ok (.invokevirtual 171, 3) := by decide +kernel
theorem dX12_infer_53 : decode cX12_infer 53 = .ok (.goto 8, 3) := by decide +kernel
theorem dX12_infer_56 : decode cX12_infer 56 = .ok (.aload_n 0, 1) := by decide +kernel
theorem dX12_infer_57 : decode cX12_infer 57 = .ok (.iconst 1, 1) := by decide +kernel
theorem dX12_infer_58 : decode cX12_infer 58 = .ok (.putfield 177, 3) := by decide +kernel
theorem dX12_infer_61 : decode cX12_infer 61 = .ok (.aload_n 0, 1) := by decide +kernel
theorem dX12_infer_62 : decode cX12_infer 62 = .ok (.getfield 202, 3) := by decide +kernel
theorem dX12_infer_65 : decode cX12_infer 65 = .ok (.ireturn, 1) := by decide +kernel
theorem dX12_run_0 : decode cX12_run 0 = .ok (.iconst 0, 1) := by decide +kernel
theorem dX12_run_1 : decode cX12_run 1 = .ok (.istore_n 1, 1) := by decide +kernel
theorem dX12_run_2 : decode cX12_run 2 = .ok (.iload_n 1, 1) := by decide +kernel
theorem dX12_run_3 : decode cX12_run 3 = .ok (.bipush 100, 2) := by decide +kernel
theorem dX12_run_5 : decode cX12_run 5 = .ok (.if_icmp .ge 16, 3) := by decide +kernel
theorem dX12_run_8 : decode cX12_run 8 = .ok (.aload_n 0, 1) := by decide +kernel
theorem dX12_run_9 : decode cX12_run 9 = .ok (.getfield 87, 3) := by decide +kernel
theorem dX12_run_12 : decode cX12_run 12 = .ok (.iload_n 1, 1) := by decide +kernel
theorem dX12_run_13 : decode cX12_run 13 = .ok (.iconst 0, 1) := by decide +kernel
theorem dX12_run_14 : decode cX12_run 14 = .ok (.bastore, 1) := by decide +kernel
theorem dX12_run_15 : decode cX12_run 15 = .ok (.iinc 1 1, 3) := by decide +kernel
theorem dX12_run_18 : decode cX12_run 18 = .ok (.goto (-16), 3) := by decide +kernel
theorem dX12_run_21 : decode cX12_run 21 = .ok (.aload_n 0, 1) := by decide +kernel
theorem dX12_run_22 : decode cX12_run 22 = .ok (.invokevirtual 347, 3) := by decide +kernel
theorem dX12_run_25 : decode cX12_run 25 = .ok (.aload_n 0, 1) := by decide +kernel
theorem dX12_run_26 : decode cX12_run 26 = .ok (.aload_n 0, 1) := by decide +kernel
theorem dX12_run_27 : decode cX12_run 27 = .ok (.getfield 81, 3) := by decide +kernel
theorem dX12_run_30 : decode cX12_run 30 = .ok (.iconst 0, 1) := by decide +kernel
theorem dX12_run_31 : decode cX12_run 31 = .ok (.invokevirtual 319, 3) := by decide +kernel
theorem dX12_run_34 : decode cX12_run 34 = .ok (.aload_n 0, 1) := by decide +kernel
theorem dX12_run_35 : decode cX12_run 35 = .ok (.invokevirtual 350, 3) := by decide +kernel
theorem dX12_run_38 : decode cX12_run 38 = .ok (.istore_n 1, 1) := by decide +kernel
theorem dX12_run_39 : decode cX12_run 39 = .ok (.iload_n 1, 1) := by decide +kernel
theorem dX12_run_40 : decode cX12_run 40 = .ok (.ifCond .lt 61, 3) := by decide +kernel
theorem dX12_run_43 : decode cX12_run 43 = .ok (.aload_n 0, 1) := by decide +kernel
theorem dX12_run_44 : decode cX12_run 44 = .ok (.invokevirtual 218, 3) := by decide +kernel
theorem dX12_run_47 : decode cX12_run 47 = .ok (.ifCond .eq 54, 3) := by decide +kernel
theorem dX12_run_50 : decode cX12_run 50 = .ok (.aload_n 0, 1) := by decide +kernel
theorem dX12_run_51 : decode cX12_run 51 = .ok (.getfield 87, 3) := by decide +kernel
theorem dX12_run_54 : decode cX12_run 54 = .ok (.iload_n 1, 1) := by decide +kernel
theorem dX12_run_55 : decode cX12_run 55 = .ok (.iconst 0, 1) := by decide +kernel
theorem dX12_run_56 : decode cX12_run 56 = .ok (.bastore, 1) := by decide +kernel
theorem dX12_run_57 : decode cX12_run 57 = .ok (.iconst 0, 1) := by decide +kernel
theorem dX12_run_58 : decode cX12_run 58 = .ok (.istore_n 2, 1) := by decide +kernel
theorem dX12_run_59 : decode cX12_run 59 = .ok (.iload_n 2, 1) := by decide +kernel
theorem dX12_run_60 : decode cX12_run 60 = .ok (.bipush 26, 2) := by decide +kernel
theorem dX12_run_62 : decode cX12_run 62 = .ok (.if_icmp .ge 26, 3) := by decide +kernel
theorem dX12_run_65 : decode cX12_run 65 = .ok (.aload_n 0, 1) := by decide +kernel
theorem dX12_run_66 : decode cX12_run 66 = .ok (.getfield 81, 3) := by decide +kernel
theorem dX12_run_69 : decode cX12_run 69 = .ok (.iload_n 2, 1) := by decide +kernel
theorem dX12_run_70 : decode cX12_run 70 = .ok (.aload_n 0, 1) := by decide +kernel
theorem dX12_run_71 : decode cX12_run 71 = .ok (.getfield 66, 3) := by decide +kernel
theorem dX12_run_74 : decode cX12_run 74 = .ok (.bipush 26, 2) := by decide +kernel
theorem dX12_run_76 : decode cX12_run 76 = .ok (.iload_n 1, 1) := by decide +kernel
theorem dX12_run_77 : decode cX12_run 77 = .ok (.imul, 1) := by decide +kernel
theorem dX12_run_78 : decode cX12_run 78 = .ok (.iload_n 2, 1) := by decide +kernel
theorem dX12_run_79 : decode cX12_run 79 = .ok (.iadd, 1) := by decide +kernel
theorem dX12_run_80 : decode cX12_run 80 = .ok (.iaload, 1) := by decide +kernel
theorem dX12_run_81 : decode cX12_run 81 = .ok (.iastore, 1) := by decide +kernel
theorem dX12_run_82 : decode cX12_run 82 = .ok (.iinc 2 1, 3) := by decide +kernel
theorem dX12_run_85 : decode cX12_run 85 = .ok (.goto (-26), 3) := by decide +kernel
theorem dX12_run_88 : decode cX12_run 88 = .ok (.aload_n 0, 1) := by decide +kernel
theorem dX12_run_89 : decode cX12_run 89 = .ok (.iload_n 1, 1) := by decide +kernel
theorem dX12_run_90 : decode cX12_run 90 = .ok (.invokevirtual 353, 3) := by decide +kernel
theorem dX12_run_93 : decode cX12_run 93 = .ok (.aload_n 0, 1) := by decide +kernel
theorem dX12_run_94 : decode cX12_run 94 = .ok (.invokevirtual 350, 3) := by decide +kernel
theorem dX12_run_97 : decode cX12_run 97 = .ok (.istore_n 1, 1) := by decide +kernel
theorem dX12_run_98 : decode cX12_run 98 = .ok (.goto (-59), 3) := by decide +kernel
theorem dX12_run_101 : decode cX12_run 101 = .ok (.return_, 1) := by decide +kernel
theorem dX12_nextPending_0 : decode cX12_nextPending 0 = .ok (.iconst 0, 1) := by decide +kernel
theorem dX12_nextPending_1 : decode cX12_nextPending 1 = .ok (.istore_n 1, 1) := by decide +kernel
theorem dX12_nextPending_2 : decode cX12_nextPending 2 = .ok (.iload_n 1, 1) := by decide +kernel
theorem dX12_nextPending_3 : decode cX12_nextPending 3 = .ok (.aload_n 0, 1) := by decide +kernel
theorem dX12_nextPending_4 : decode cX12_nextPending 4 = .ok (.getfield 165, 3) := by decide +kernel
theorem dX12_nextPending_7 : decode cX12_nextPending 7 = .ok (.if_icmp .ge 18, 3) := by decide +kernel
theorem dX12_nextPending_10 : decode cX12_nextPending 10 = .ok (.aload_n 0, 1) := by decide +kernel
theorem dX12_nextPending_11 : decode cX12_nextPending 11 = .ok (.getfield 87, 3) := by decide +kernel
theorem dX12_nextPending_14 : decode cX12_nextPending 14 = .ok (.iload_n 1, 1) := by decide +kernel
theorem dX12_nextPending_15 : decode cX12_nextPending 15 = .ok (.baload, 1) := by decide +kernel
theorem dX12_nextPending_16 : decode cX12_nextPending 16 = .ok (.ifCond .ne 9, 3) := by decide +kernel
theorem dX12_nextPending_19 : decode cX12_nextPending 19 = .ok (.iinc 1 1, 3) := by decide +kernel
theorem dX12_nextPending_22 : decode cX12_nextPending 22 = .ok (.goto (-20), 3) := by decide +kernel
theorem dX12_nextPending_25 : decode cX12_nextPending 25 = .ok (.iload_n 1, 1) := by decide +kernel
theorem dX12_nextPending_26 : decode cX12_nextPending 26 = .ok (.aload_n 0, 1) := by decide +kernel
theorem dX12_nextPending_27 : decode cX12_nextPending 27 = .ok (.getfield 165, 3) := by decide +kernel
theorem dX12_nextPending_30 : decode cX12_nextPending 30 = .ok (.if_icmp .ge 7, 3) := by decide +kernel
theorem dX12_nextPending_33 : decode cX12_nextPending 33 = .ok (.iload_n 1, 1) := by decide +kernel
theorem dX12_nextPending_34 : decode cX12_nextPending 34 = .ok (.goto 4, 3) := by decide +kernel
theorem dX12_nextPending_37 : decode cX12_nextPending 37 = .ok (.iconst (-1), 1) := by decide +kernel
theorem dX12_nextPending_38 : decode cX12_nextPending 38 = .ok (.ireturn, 1) := by decide +kernel
theorem dX12_check_0 : decode cX12_check 0 = .ok (.aload_n 0, 1) := by decide +kernel
theorem dX12_check_1 : decode cX12_check 1 = .ok (.iconst 0, 1) := by decide +kernel
theorem dX12_check_2 : decode cX12_check 2 = .ok (.putfield 90, 3) := by decide +kernel
theorem dX12_check_5 : decode cX12_check 5 = .ok (.aload_n 0, 1) := by decide +kernel
theorem dX12_check_6 : decode cX12_check 6 = .ok (.getfield 152, 3) := by decide +kernel
theorem dX12_check_9 : decode cX12_check 9 = .ok (.ifCond .ne 9, 3) := by decide +kernel
theorem dX12_check_12 : decode cX12_check 12 = .ok (.aload_n 0, 1) := by decide +kernel
theorem dX12_check_13 : decode cX12_check 13 = .ok (.iconst 1, 1) := by decide +kernel
theorem dX12_check_14 : decode cX12_check 14 = .ok (.invokevirtual 126, 3) := by decide +kernel
theorem dX12_check_17 : decode cX12_check 17 = .ok (.ireturn, 1) := by decide +kernel
theorem dX12_check_18 : decode cX12_check 18 = .ok (.aload_n 0, 1) := by decide +kernel
theorem dX12_check_19 : decode cX12_check 19 = .ok (.iconst 1, 1) := by decide +kernel
theorem dX12_check_20 : decode cX12_check 20 = .ok (.putfield 316, 3) := by decide +kernel
theorem dX12_check_23 : decode cX12_check 23 = .ok (.aload_n 0, 1) := by decide +kernel
theorem dX12_check_24 : decode cX12_check 24 = .ok (.invokevirtual 341, 3) := by decide +kernel
theorem dX12_check_27 : decode cX12_check 27 = .ok (.aload_n 0, 1) := by decide +kernel
theorem dX12_check_28 : decode cX12_check 28 = .ok (.invokevirtual 218, 3) := by decide +kernel
theorem dX12_check_31 : decode cX12_check 31 = .ok (.ifCond .eq 7, 3) := by decide +kernel
theorem dX12_check_34 : decode cX12_check 34 = .ok (.aload_n 0, 1) := by decide +kernel
theorem dX12_check_35 : decode cX12_check 35 = .ok (.invokevirtual 347, 3) := by decide +kernel
theorem dX12_check_38 : decode cX12_check 38 = .ok (.aload_n 0, 1) := by decide +kernel
theorem dX12_check_39 : decode cX12_check 39 = .ok (.iconst 1, 1) := by decide +kernel
theorem dX12_check_40 : decode cX12_check 40 = .ok (.putfield 338, 3) := by decide +kernel
theorem dX12_check_43 : decode cX12_check 43 = .ok (.iconst 0, 1) := by decide +kernel
theorem dX12_check_44 : decode cX12_check 44 = .ok (.istore_n 1, 1) := by decide +kernel
theorem dX12_check_45 : decode cX12_check 45 = .ok (.iload_n 1, 1) := by decide +kernel
theorem dX12_check_46 : decode cX12_check 46 = .ok (.aload_n 0, 1) := by decide +kernel
theorem dX12_check_47 : decode cX12_check 47 = .ok (.getfield 165, 3) := by decide +kernel
theorem dX12_check_50 : decode cX12_check 50 = .ok (.if_icmp .ge 38, 3) := by decide +kernel
theorem dX12_check_53 : decode cX12_check 53 = .ok (.aload_n 0, 1) := by decide +kernel
theorem dX12_check_54 : decode cX12_check 54 = .ok (.invokevirtual 218, 3) := by decide +kernel
theorem dX12_check_57 : decode cX12_check 57 = .ok (.ifCond .eq 31, 3) := by decide +kernel
theorem dX12_check_60 : decode cX12_check 60 = .ok (.aload_n 0, 1) := by decide +kernel
theorem dX12_check_61 : decode cX12_check 61 = .ok (.iload_n 1, 1) := by decide +kernel
theorem dX12_check_62 : decode cX12_check 62 = .ok (.invokevirtual 356, 3) := by decide +kernel
theorem dX12_check_65 : decode cX12_check 65 = .ok (.aload_n 0, 1) := by decide +kernel
theorem dX12_check_66 : decode cX12_check 66 = .ok (.iconst 0, 1) := by decide +kernel
theorem dX12_check_67 : decode cX12_check 67 = .ok (.putfield 338, 3) := by decide +kernel
theorem dX12_check_70 : decode cX12_check 70 = .ok (.aload_n 0, 1) := by decide +kernel
theorem dX12_check_71 : decode cX12_check 71 = .ok (.invokevirtual 218, 3) := by decide +kernel
theorem dX12_check_74 : decode cX12_check 74 = .ok (.ifCond .eq 8, 3) := by decide +kernel
theorem dX12_check_77 : decode cX12_check 77 = .ok (.aload_n 0, 1) := by decide +kernel
theorem dX12_check_78 : decode cX12_check 78 = .ok (.iload_n 1, 1) := by decide +kernel
theorem dX12_check_79 : decode cX12_check 79 = .ok (.invokevirtual 353, 3) := by decide +kernel
theorem dX12_check_82 : decode cX12_check 82 = .ok (.iinc 1 1, 3) := by decide +kernel
theorem dX12_check_85 : decode cX12_check 85 = .ok (.goto (-40), 3) := by decide +kernel
theorem dX12_check_88 : decode cX12_check 88 = .ok (.aload_n 0, 1) := by decide +kernel
theorem dX12_check_89 : decode cX12_check 89 = .ok (.getfield 202, 3) := by decide +kernel
theorem dX12_check_92 : decode cX12_check 92 = .ok (.ireturn, 1) := by decide +kernel
theorem dX12_enter_0 : decode cX12_enter 0 = .ok (.aload_n 0, 1) := by decide +kernel
theorem dX12_enter_1 : decode cX12_enter 1 = .ok (.getfield 69, 3) := by decide +kernel
theorem dX12_enter_4 : decode cX12_enter 4 = .ok (.iload_n 1, 1) := by decide +kernel
theorem dX12_enter_5 : decode cX12_enter 5 = .ok (.baload, 1) := by decide +kernel
theorem dX12_enter_6 : decode cX12_enter 6 = .ok (.ifCond .ne 13, 3) := by decide +kernel
theorem dX12_enter_9 : decode cX12_enter 9 = .ok (.aload_n 0, 1) := by decide +kernel
theorem dX12_enter_10 : decode cX12_enter 10 = .ok (.getfield 338, 3) := by decide +kernel
theorem dX12_enter_13 : decode cX12_enter 13 = .ok (.ifCond .ne 39, 3) := by decide +kernel
theorem dX12_enter_16 : decode cX12_enter 16 = .ok (.goto 29, 3) := by decide +kernel
theorem dX12_enter_19 : decode cX12_enter 19 = .ok (.aload_n 0, 1) := by decide +kernel
theorem dX12_enter_20 : decode cX12_enter 20 = .ok (.getfield 338, 3) := by decide +kernel
theorem dX12_enter_23 : decode cX12_enter 23 = .ok (.ifCond .eq 29, 3) := by decide +kernel
theorem dX12_enter_26 : decode cX12_enter 26 = .ok (.aload_n 0, 1) := by decide +kernel
theorem dX12_enter_27 : decode cX12_enter 27 = .ok (.aload_n 0, 1) := by decide +kernel
theorem dX12_enter_28 : decode cX12_enter 28 = .ok (.getfield 81, 3) := by decide +kernel
theorem dX12_enter_31 : decode cX12_enter 31 = .ok (.aload_n 0, 1) := by decide +kernel
theorem dX12_enter_32 : decode cX12_enter 32 = .ok (.getfield 72, 3) := by decide +kernel
theorem dX12_enter_35 : decode cX12_enter 35 = .ok (.bipush 26, 2) := by decide +kernel
theorem dX12_enter_37 : decode cX12_enter 37 = .ok (.iload_n 1, 1) := by decide +kernel
theorem dX12_enter_38 : decode cX12_enter 38 = .ok (.imul, 1) := by decide +kernel
theorem dX12_enter_39 : decode cX12_enter 39 = .ok (.invokevirtual 323, 3) := by decide +kernel
theorem dX12_enter_42 : decode cX12_enter 42 = .ok (.ifCond .ne 10, 3) := by decide +kernel
theorem dX12_enter_45 : decode cX12_enter 45 = .ok (.aload_n 0, 1) := by decide +kernel
theorem dX12_enter_46 : decode cX12_enter 46 = .ok (.bipush 10, 2) := by decide +kernel
theorem dX12_enter_48 : decode cX12_enter 48 = .ok (.iload_n 1, 1) := by decide +kernel
theorem dX12_enter_49 : decode cX12_enter 49 = .ok (.invokevirtual 208, 3) := by decide +kernel
theorem dX12_enter_52 : decode cX12_enter 52 = .ok (.iconst 0, 1) := by decide +kernel
theorem dX12_enter_53 : decode cX12_enter 53 = .ok (.istore_n 2, 1) := by decide +kernel
theorem dX12_enter_54 : decode cX12_enter 54 = .ok (.iload_n 2, 1) := by decide +kernel
theorem dX12_enter_55 : decode cX12_enter 55 = .ok (.bipush 26, 2) := by decide +kernel
theorem dX12_enter_57 : decode cX12_enter 57 = .ok (.if_icmp .ge 35, 3) := by decide +kernel
theorem dX12_enter_60 : decode cX12_enter 60 = .ok (.aload_n 0, 1) := by decide +kernel
theorem dX12_enter_61 : decode cX12_enter 61 = .ok (.getfield 69, 3) := by decide +kernel
theorem dX12_enter_64 : decode cX12_enter 64 = .ok (.iload_n 1, 1) := by decide +kernel
theorem dX12_enter_65 : decode cX12_enter 65 = .ok (.baload, 1) := by decide +kernel
theorem dX12_enter_66 : decode cX12_enter 66 = .ok (.ifCond .eq 26, 3) := by decide +kernel
theorem dX12_enter_69 : decode cX12_enter 69 = .ok (.aload_n 0, 1) := by decide +kernel
theorem dX12_enter_70 : decode cX12_enter 70 = .ok (.getfield 81, 3) := by decide +kernel
theorem dX12_enter_73 : decode cX12_enter 73 = .ok (.iload_n 2, 1) := by decide +kernel
theorem dX12_enter_74 : decode cX12_enter 74 = .ok (.aload_n 0, 1) := by decide +kernel
theorem dX12_enter_75 : decode cX12_enter 75 = .ok (.getfield 72, 3) := by decide +kernel
theorem dX12_enter_78 : decode cX12_enter 78 = .ok (.bipush 26, 2) := by decide +kernel
theorem dX12_enter_80 : decode cX12_enter 80 = .ok (.iload_n 1, 1) := by decide +kernel
theorem dX12_enter_81 : decode cX12_enter 81 = .ok (.imul, 1) := by decide +kernel
theorem dX12_enter_82 : decode cX12_enter 82 = .ok (.iload_n 2, 1) := by decide +kernel
theorem dX12_enter_83 : decode cX12_enter 83 = .ok (.iadd, 1) := by decide +kernel
theorem dX12_enter_84 : decode cX12_enter 84 = .ok (.iaload, 1) := by decide +kernel
theorem dX12_enter_85 : decode cX12_enter 85 = .ok (.iastore, 1) := by decide +kernel
theorem dX12_enter_86 : decode cX12_enter 86 = .ok (.iinc 2 1, 3) := by decide +kernel
theorem dX12_enter_89 : decode cX12_enter 89 = .ok (.goto (-35), 3) := by decide +kernel
theorem dX12_enter_92 : decode cX12_enter 92 = .ok (.return_, 1) := by decide +kernel
theorem dX12_errorPosition_0 : decode cX12_errorPosition 0 = .ok (.aload_n 0, 1) := by decide +kernel
theorem dX12_errorPosition_1 : decode cX12_errorPosition 1 = .ok (.iconst 0, 1) := by decide +kernel
theorem dX12_errorPosition_2 : decode cX12_errorPosition 2 = .ok (.putfield 90, 3) := by decide +kernel
theorem dX12_errorPosition_5 : decode cX12_errorPosition 5 = .ok (.aload_n 0, 1) := by decide +kernel
theorem dX12_errorPosition_6 : decode cX12_errorPosition 6 = .ok (.getfield 78, 3) := by decide +kernel
theorem dX12_errorPosition_9 : decode cX12_errorPosition 9 = .ok (.ireturn, 1) := by decide +kernel
theorem dX12_visits_0 : decode cX12_visits 0 = .ok (.aload_n 0, 1) := by decide +kernel
theorem dX12_visits_1 : decode cX12_visits 1 = .ok (.iconst 0, 1) := by decide +kernel
theorem dX12_visits_2 : decode cX12_visits 2 = .ok (.putfield 90, 3) := by decide +kernel
theorem dX12_visits_5 : decode cX12_visits 5 = .ok (.aload_n 0, 1) := by decide +kernel
theorem dX12_visits_6 : decode cX12_visits 6 = .ok (.getfield 205, 3) := by decide +kernel
theorem dX12_visits_9 : decode cX12_visits 9 = .ok (.ireturn, 1) := by decide +kernel
theorem dX12_isIndex_0 : decode cX12_isIndex 0 = .ok (.iload_n 1, 1) := by decide +kernel
theorem dX12_isIndex_1 : decode cX12_isIndex 1 = .ok (.ifCond .lt 15, 3) := by decide +kernel
theorem dX12_isIndex_4 : decode cX12_isIndex 4 = .ok (.iload_n 1, 1) := by decide +kernel
theorem dX12_isIndex_5 : decode cX12_isIndex 5 = .ok (.aload_n 0, 1) := by decide +kernel
theorem dX12_isIndex_6 : decode cX12_isIndex 6 = .ok (.getfield 165, 3) := by decide +kernel
theorem dX12_isIndex_9 : decode cX12_isIndex 9 = .ok (.if_icmp .ge 7, 3) := by decide +kernel
theorem dX12_isIndex_12 : decode cX12_isIndex 12 = .ok (.iconst 1, 1) := by decide +kernel
theorem dX12_isIndex_13 : decode cX12_isIndex 13 = .ok (.goto 4, 3) := by decide +kernel
theorem dX12_isIndex_16 : decode cX12_isIndex 16 = .ok (.iconst 0, 1) := by decide +kernel
theorem dX12_isIndex_17 : decode cX12_isIndex 17 = .ok (.ireturn, 1) := by decide +kernel
theorem dX12_hasFrame_0 : decode cX12_hasFrame 0 = .ok (.aload_n 0, 1) := by decide +kernel
theorem dX12_hasFrame_1 : decode cX12_hasFrame 1 = .ok (.iconst 0, 1) := by decide +kernel
theorem dX12_hasFrame_2 : decode cX12_hasFrame 2 = .ok (.putfield 90, 3) := by decide +kernel
theorem dX12_hasFrame_5 : decode cX12_hasFrame 5 = .ok (.aload_n 0, 1) := by decide +kernel
theorem dX12_hasFrame_6 : decode cX12_hasFrame 6 = .ok (.iload_n 1, 1) := by decide +kernel
theorem dX12_hasFrame_7 : decode cX12_hasFrame 7 = .ok (.invokevirtual 359, 3) := by decide +kernel
theorem dX12_hasFrame_10 : decode cX12_hasFrame 10 = .ok (.ifCond .eq 12, 3) := by decide +kernel
theorem dX12_hasFrame_13 : decode cX12_hasFrame 13 = .ok (.aload_n 0, 1) := by decide +kernel
theorem dX12_hasFrame_14 : decode cX12_hasFrame 14 = .ok (.getfield 63, 3) := by decide +kernel
theorem dX12_hasFrame_17 : decode cX12_hasFrame 17 = .ok (.iload_n 1, 1) := by decide +kernel
theorem dX12_hasFrame_18 : decode cX12_hasFrame 18 = .ok (.baload, 1) := by decide +kernel
theorem dX12_hasFrame_19 : decode cX12_hasFrame 19 = .ok (.goto 16, 3) := by decide +kernel
theorem dX12_hasFrame_22 : decode cX12_hasFrame 22 = .ok (.aload_n 0, 1) := by decide +kernel
theorem dX12_hasFrame_23 : decode cX12_hasFrame 23 = .ok (.iconst 1, 1) := by decide +kernel
theorem dX12_hasFrame_24 : decode cX12_hasFrame 24 = .ok (.invokevirtual 126, 3) := by decide +kernel
theorem dX12_hasFrame_27 : decode cX12_hasFrame 27 = .ok (.ifCond .le 7, 3) := by decide +kernel
theorem dX12_hasFrame_30 : decode cX12_hasFrame 30 = .ok (.iconst 1, 1) := by decide +kernel
theorem dX12_hasFrame_31 : decode cX12_hasFrame 31 = .ok (.goto 4, 3) := by decide +kernel
theorem dX12_hasFrame_34 : decode cX12_hasFrame 34 = .ok (.iconst 0, 1) := by decide +kernel
theorem dX12_hasFrame_35 : decode cX12_hasFrame 35 = .ok (.ireturn, 1) := by decide +kernel
theorem dX12_isLooked_0 : decode cX12_isLooked 0 = .ok (.aload_n 0, 1) := by decide +kernel
theorem dX12_isLooked_1 : decode cX12_isLooked 1 = .ok (.aload_n 0, 1) := by decide +kernel
theorem dX12_isLooked_2 : decode cX12_isLooked 2 = .ok (.iload_n 1, 1) := by decide +kernel
theorem dX12_isLooked_3 : decode cX12_isLooked 3 = .ok (.invokevirtual 359, 3) := by decide +kernel
theorem dX12_isLooked_6 : decode cX12_isLooked 6 = .ok (.ifCond .ne 7, 3) := by decide +kernel
theorem dX12_isLooked_9 : decode cX12_isLooked 9 = .ok (.iconst 1, 1) := by decide +kernel
theorem dX12_isLooked_10 : decode cX12_isLooked 10 = .ok (.goto 17, 3) := by decide +kernel
theorem dX12_isLooked_13 : decode cX12_isLooked 13 = .ok (.aload_n 0, 1) := by decide +kernel
theorem dX12_isLooked_14 : decode cX12_isLooked 14 = .ok (.getfield 63, 3) := by decide +kernel
theorem dX12_isLooked_17 : decode cX12_isLooked 17 = .ok (.iload_n 1, 1) := by decide +kernel
theorem dX12_isLooked_18 : decode cX12_isLooked 18 = .ok (.baload, 1) := by decide +kernel
theorem dX12_isLooked_19 : decode cX12_isLooked 19 = .ok (.ifCond .ne 7, 3) := by decide +kernel
theorem dX12_isLooked_22 : decode cX12_isLooked 22 = .ok (.iconst 2, 1) := by decide +kernel
theorem dX12_isLooked_23 : decode cX12_isLooked 23 = .ok (.goto 4, 3) := by decide +kernel
theorem dX12_isLooked_26 : decode cX12_isLooked 26 = .ok (.iconst 0, 1) := by decide +kernel
theorem dX12_isLooked_27 : decode cX12_isLooked 27 = .ok (.putfield 90, 3) := by decide +kernel
theorem dX12_isLooked_30 : decode cX12_isLooked 30 = .ok (.aload_n 0, 1) := by decide +kernel
theorem dX12_isLooked_31 : decode cX12_isLooked 31 = .ok (.getfield 90, 3) := by decide +kernel
theorem dX12_isLooked_34 : decode cX12_isLooked 34 = .ok (.ifCond .ne 7, 3) := by decide +kernel
theorem dX12_isLooked_37 : decode cX12_isLooked 37 = .ok (.iconst 1, 1) := by decide +kernel
theorem dX12_isLooked_38 : decode cX12_isLooked 38 = .ok (.goto 4, 3) := by decide +kernel
theorem dX12_isLooked_41 : decode cX12_isLooked 41 = .ok (.iconst 0, 1) := by decide +kernel
theorem dX12_isLooked_42 : decode cX12_isLooked 42 = .ok (.ireturn, 1) := by decide +kernel
theorem dX12_stackHeight_0 : decode cX12_stackHeight 0 = .ok (.aload_n 0, 1) := by decide +kernel
theorem dX12_stackHeight_1 : decode cX12_stackHeight 1 = .ok (.iload_n 1, 1) := by decide +kernel
theorem dX12_stackHeight_2 : decode cX12_stackHeight 2 = .ok (.invokevirtual 362, 3) := by decide +kernel
theorem dX12_stackHeight_5 : decode cX12_stackHeight 5 = .ok (.ifCond .eq 18, 3) := by decide +kernel
theorem dX12_stackHeight_8 : decode cX12_stackHeight 8 = .ok (.aload_n 0, 1) := by decide +kernel
theorem dX12_stackHeight_9 : decode cX12_stackHeight 9 = .ok (.getfield 66, 3) := by decide +kernel
theorem dX12_stackHeight_12 : decode cX12_stackHeight 12 = .ok (.bipush 26, 2) := by decide +kernel
theorem dX12_stackHeight_14 : decode cX12_stackHeight 14 = .ok (.iload_n 1, 1) := by decide +kernel
theorem dX12_stackHeight_15 : decode cX12_stackHeight 15 = .ok (.imul, 1) := by decide +kernel
theorem dX12_stackHeight_16 : decode cX12_stackHeight 16 = .ok (.bipush 24, 2) := by decide +kernel
theorem dX12_stackHeight_18 : decode cX12_stackHeight 18 = .ok (.iadd, 1) := by decide +kernel
theorem dX12_stackHeight_19 : decode cX12_stackHeight 19 = .ok (.iaload, 1) := by decide +kernel
theorem dX12_stackHeight_20 : decode cX12_stackHeight 20 = .ok (.goto 4, 3) := by decide +kernel
theorem dX12_stackHeight_23 : decode cX12_stackHeight 23 = .ok (.iconst 0, 1) := by decide +kernel
theorem dX12_stackHeight_24 : decode cX12_stackHeight 24 = .ok (.ireturn, 1) := by decide +kernel
theorem dX12_stackSlot_0 : decode cX12_stackSlot 0 = .ok (.aload_n 0, 1) := by decide +kernel
theorem dX12_stackSlot_1 : decode cX12_stackSlot 1 = .ok (.iload_n 1, 1) := by decide +kernel
theorem dX12_stackSlot_2 : decode cX12_stackSlot 2 = .ok (.invokevirtual 362, 3) := by decide +kernel
theorem dX12_stackSlot_5 : decode cX12_stackSlot 5 = .ok (.ifCond .ne 5, 3) := by decide +kernel
theorem dX12_stackSlot_8 : decode cX12_stackSlot 8 = .ok (.iconst 0, 1) := by decide +kernel
theorem dX12_stackSlot_9 : decode cX12_stackSlot 9 = .ok (.ireturn, 1) := by decide +kernel
theorem dX12_stackSlot_10 : decode cX12_stackSlot 10 = .ok (.iload_n 2, 1) := by decide +kernel
theorem dX12_stackSlot_11 : decode cX12_stackSlot 11 = .ok (.ifCond .lt 36, 3) := by decide +kernel
theorem dX12_stackSlot_14 : decode cX12_stackSlot 14 = .ok (.iload_n 2, 1) := by decide +kernel
theorem dX12_stackSlot_15 : decode cX12_stackSlot 15 = .ok (.aload_n 0, 1) := by decide +kernel
theorem dX12_stackSlot_16 : decode cX12_stackSlot 16 = .ok (.getfield 66, 3) := by decide +kernel
theorem dX12_stackSlot_19 : decode cX12_stackSlot 19 = .ok (.bipush 26, 2) := by decide +kernel
theorem dX12_stackSlot_21 : decode cX12_stackSlot 21 = .ok (.iload_n 1, 1) := by decide +kernel
theorem dX12_stackSlot_22 : decode cX12_stackSlot 22 = .ok (.imul, 1) := by decide +kernel
theorem dX12_stackSlot_23 : decode cX12_stackSlot 23 = .ok (.bipush 24, 2) := by decide +kernel
theorem dX12_stackSlot_25 : decode cX12_stackSlot 25 = .ok (.iadd, 1) := by decide +kernel
theorem dX12_stackSlot_26 : decode cX12_stackSlot 26 = .ok (.iaload, 1) := by decide +kernel
theorem dX12_stackSlot_27 : decode cX12_stackSlot 27 = .ok (.if_icmp .ge 20, 3) := by decide +kernel
theorem dX12_stackSlot_30 : decode cX12_stackSlot 30 = .ok (.aload_n 0, 1) := by decide +kernel
theorem dX12_stackSlot_31 : decode cX12_stackSlot 31 = .ok (.getfield 66, 3) := by decide +kernel
theorem dX12_stackSlot_34 : decode cX12_stackSlot 34 = .ok (.bipush 26, 2) := by decide +kernel
theorem dX12_stackSlot_36 : decode cX12_stackSlot 36 = .ok (.iload_n 1, 1) := by decide +kernel
theorem dX12_stackSlot_37 : decode cX12_stackSlot 37 = .ok (.imul, 1) := by decide +kernel
theorem dX12_stackSlot_38 : decode cX12_stackSlot 38 = .ok (.bipush 12, 2) := by decide +kernel
theorem dX12_stackSlot_40 : decode cX12_stackSlot 40 = .ok (.iadd, 1) := by decide +kernel
theorem dX12_stackSlot_41 : decode cX12_stackSlot 41 = .ok (.iload_n 2, 1) := by decide +kernel
theorem dX12_stackSlot_42 : decode cX12_stackSlot 42 = .ok (.iadd, 1) := by decide +kernel
theorem dX12_stackSlot_43 : decode cX12_stackSlot 43 = .ok (.iaload, 1) := by decide +kernel
theorem dX12_stackSlot_44 : decode cX12_stackSlot 44 = .ok (.goto 8, 3) := by decide +kernel
theorem dX12_stackSlot_47 : decode cX12_stackSlot 47 = .ok (.aload_n 0, 1) := by decide +kernel
theorem dX12_stackSlot_48 : decode cX12_stackSlot 48 = .ok (.iconst 3, 1) := by decide +kernel
theorem dX12_stackSlot_49 : decode cX12_stackSlot 49 = .ok (.invokevirtual 126, 3) := by decide +kernel
theorem dX12_stackSlot_52 : decode cX12_stackSlot 52 = .ok (.ireturn, 1) := by decide +kernel
theorem dX12_localSlot_0 : decode cX12_localSlot 0 = .ok (.aload_n 0, 1) := by decide +kernel
theorem dX12_localSlot_1 : decode cX12_localSlot 1 = .ok (.iload_n 1, 1) := by decide +kernel
theorem dX12_localSlot_2 : decode cX12_localSlot 2 = .ok (.invokevirtual 362, 3) := by decide +kernel
theorem dX12_localSlot_5 : decode cX12_localSlot 5 = .ok (.ifCond .ne 5, 3) := by decide +kernel
theorem dX12_localSlot_8 : decode cX12_localSlot 8 = .ok (.iconst 0, 1) := by decide +kernel
theorem dX12_localSlot_9 : decode cX12_localSlot 9 = .ok (.ireturn, 1) := by decide +kernel
theorem dX12_localSlot_10 : decode cX12_localSlot 10 = .ok (.iload_n 2, 1) := by decide +kernel
theorem dX12_localSlot_11 : decode cX12_localSlot 11 = .ok (.ifCond .lt 25, 3) := by decide +kernel
theorem dX12_localSlot_14 : decode cX12_localSlot 14 = .ok (.iload_n 2, 1) := by decide +kernel
theorem dX12_localSlot_15 : decode cX12_localSlot 15 = .ok (.aload_n 0, 1) := by decide +kernel
theorem dX12_localSlot_16 : decode cX12_localSlot 16 = .ok (.getfield 162, 3) := by decide +kernel
theorem dX12_localSlot_19 : decode cX12_localSlot 19 = .ok (.if_icmp .ge 17, 3) := by decide +kernel
theorem dX12_localSlot_22 : decode cX12_localSlot 22 = .ok (.aload_n 0, 1) := by decide +kernel
theorem dX12_localSlot_23 : decode cX12_localSlot 23 = .ok (.getfield 66, 3) := by decide +kernel
theorem dX12_localSlot_26 : decode cX12_localSlot 26 = .ok (.bipush 26, 2) := by decide +kernel
theorem dX12_localSlot_28 : decode cX12_localSlot 28 = .ok (.iload_n 1, 1) := by decide +kernel
theorem dX12_localSlot_29 : decode cX12_localSlot 29 = .ok (.imul, 1) := by decide +kernel
theorem dX12_localSlot_30 : decode cX12_localSlot 30 = .ok (.iload_n 2, 1) := by decide +kernel
theorem dX12_localSlot_31 : decode cX12_localSlot 31 = .ok (.iadd, 1) := by decide +kernel
theorem dX12_localSlot_32 : decode cX12_localSlot 32 = .ok (.iaload, 1) := by decide +kernel
theorem dX12_localSlot_33 : decode cX12_localSlot 33 = .ok (.goto 8, 3) := by decide +kernel
theorem dX12_localSlot_36 : decode cX12_localSlot 36 = .ok (.aload_n 0, 1) := by decide +kernel
theorem dX12_localSlot_37 : decode cX12_localSlot 37 = .ok (.iconst 3, 1) := by decide +kernel
theorem dX12_localSlot_38 : decode cX12_localSlot 38 = .ok (.invokevirtual 126, 3) := by decide +kernel
theorem dX12_localSlot_41 : decode cX12_localSlot 41 = .ok (.ireturn, 1) := by decide +kernel
theorem dX12_isMarked_0 : decode cX12_isMarked 0 = .ok (.aload_n 0, 1) := by decide +kernel
theorem dX12_isMarked_1 : decode cX12_isMarked 1 = .ok (.iload_n 1, 1) := by decide +kernel
theorem dX12_isMarked_2 : decode cX12_isMarked 2 = .ok (.invokevirtual 362, 3) := by decide +kernel
theorem dX12_isMarked_5 : decode cX12_isMarked 5 = .ok (.ifCond .eq 23, 3) := by decide +kernel
theorem dX12_isMarked_8 : decode cX12_isMarked 8 = .ok (.aload_n 0, 1) := by decide +kernel
theorem dX12_isMarked_9 : decode cX12_isMarked 9 = .ok (.getfield 66, 3) := by decide +kernel
theorem dX12_isMarked_12 : decode cX12_isMarked 12 = .ok (.bipush 26, 2) := by decide +kernel
theorem dX12_isMarked_14 : decode cX12_isMarked 14 = .ok (.iload_n 1, 1) := by decide +kernel
theorem dX12_isMarked_15 : decode cX12_isMarked 15 = .ok (.imul, 1) := by decide +kernel
theorem dX12_isMarked_16 : decode cX12_isMarked 16 = .ok (.bipush 25, 2) := by decide +kernel
theorem dX12_isMarked_18 : decode cX12_isMarked 18 = .ok (.iadd, 1) := by decide +kernel
theorem dX12_isMarked_19 : decode cX12_isMarked 19 = .ok (.iaload, 1) := by decide +kernel
theorem dX12_isMarked_20 : decode cX12_isMarked 20 = .ok (.iconst 1, 1) := by decide +kernel
theorem dX12_isMarked_21 : decode cX12_isMarked 21 = .ok (.if_icmp .ne 7, 3) := by decide +kernel
theorem dX12_isMarked_24 : decode cX12_isMarked 24 = .ok (.iconst 1, 1) := by decide +kernel
theorem dX12_isMarked_25 : decode cX12_isMarked 25 = .ok (.goto 4, 3) := by decide +kernel
theorem dX12_isMarked_28 : decode cX12_isMarked 28 = .ok (.iconst 0, 1) := by decide +kernel
theorem dX12_isMarked_29 : decode cX12_isMarked 29 = .ok (.ireturn, 1) := by decide +kernel
theorem dX12_digest_0 : decode cX12_digest 0 = .ok (.aload_n 0, 1) := by decide +kernel
theorem dX12_digest_1 : decode cX12_digest 1 = .ok (.iconst 0, 1) := by decide +kernel
theorem dX12_digest_2 : decode cX12_digest 2 = .ok (.putfield 90, 3) := by decide +kernel
theorem dX12_digest_5 : decode cX12_digest 5 = .ok (.ldc2_w 365, 3) := by decide +kernel
theorem dX12_digest_8 : decode cX12_digest 8 = .ok (.aload_n 0, 1) := by decide +kernel
theorem dX12_digest_9 : decode cX12_digest 9 = .ok (.getfield 9, 3) := by decide +kernel
theorem dX12_digest_12 : decode cX12_digest 12 = .ok (.i2l, 1) := by decide +kernel
theorem dX12_digest_13 : decode cX12_digest 13 = .ok (.ladd, 1) := by decide +kernel
theorem dX12_digest_14 : decode cX12_digest 14 = .ok (.ldc2_w 367, 3) := by decide +kernel
theorem dX12_digest_17 : decode cX12_digest 17 = .ok (.lmul, 1) := by decide +kernel
theorem dX12_digest_18 : decode cX12_digest 18 = .ok (.aload_n 0, 1) := by decide +kernel
theorem dX12_digest_19 : decode cX12_digest 19 = .ok (.getfield 136, 3) := by decide +kernel
theorem dX12_digest_22 : decode cX12_digest 22 = .ok (.i2l, 1) := by decide +kernel
theorem dX12_digest_23 : decode cX12_digest 23 = .ok (.ladd, 1) := by decide +kernel
theorem dX12_digest_24 : decode cX12_digest 24 = .ok (.ldc2_w 367, 3) := by decide +kernel
theorem dX12_digest_27 : decode cX12_digest 27 = .ok (.lmul, 1) := by decide +kernel
theorem dX12_digest_28 : decode cX12_digest 28 = .ok (.aload_n 0, 1) := by decide +kernel
theorem dX12_digest_29 : decode cX12_digest 29 = .ok (.getfield 149, 3) := by decide +kernel
theorem dX12_digest_32 : decode cX12_digest 32 = .ok (.i2l, 1) := by decide +kernel
theorem dX12_digest_33 : decode cX12_digest 33 = .ok (.ladd, 1) := by decide +kernel
theorem dX12_digest_34 : decode cX12_digest 34 = .ok (.ldc2_w 367, 3) := by decide +kernel
theorem dX12_digest_37 : decode cX12_digest 37 = .ok (.lmul, 1) := by decide +kernel
theorem dX12_digest_38 : decode cX12_digest 38 = .ok (.aload_n 0, 1) := by decide +kernel
theorem dX12_digest_39 : decode cX12_digest 39 = .ok (.getfield 165, 3) := by decide +kernel
theorem dX12_digest_42 : decode cX12_digest 42 = .ok (.i2l, 1) := by decide +kernel
theorem dX12_digest_43 : decode cX12_digest 43 = .ok (.ladd, 1) := by decide +kernel
theorem dX12_digest_44 : decode cX12_digest 44 = .ok (.ldc2_w 367, 3) := by decide +kernel
theorem dX12_digest_47 : decode cX12_digest 47 = .ok (.lmul, 1) := by decide +kernel
theorem dX12_digest_48 : decode cX12_digest 48 = .ok (.aload_n 0, 1) := by decide +kernel
theorem dX12_digest_49 : decode cX12_digest 49 = .ok (.getfield 168, 3) := by decide +kernel
theorem dX12_digest_52 : decode cX12_digest 52 = .ok (.i2l, 1) := by decide +kernel
theorem dX12_digest_53 : decode cX12_digest 53 = .ok (.ladd, 1) := by decide +kernel
theorem dX12_digest_54 : decode cX12_digest 54 = .ok (.ldc2_w 367, 3) := by decide +kernel
theorem dX12_digest_57 : decode cX12_digest 57 = .ok (.lmul, 1) := by decide +kernel
theorem dX12_digest_58 : decode cX12_digest 58 = .ok (.aload_n 0, 1) := by decide +kernel
theorem dX12_digest_59 : decode cX12_digest 59 = .ok (.invokevirtual 189, 3) := by decide +kernel
theorem dX12_digest_62 : decode cX12_digest 62 = .ok (.i2l, 1) := by decide +kernel
theorem dX12_digest_63 : decode cX12_digest 63 = .ok (.ladd, 1) := by decide +kernel
theorem dX12_digest_64 : decode cX12_digest 64 = .ok (.lstore_n 1, 1) := by decide +kernel
theorem dX12_digest_65 : decode cX12_digest 65 = .ok (.iconst 0, 1) := by decide +kernel
theorem dX12_digest_66 : decode cX12_digest 66 = .ok (.istore_n 3, 1) := by decide +kernel
theorem dX12_digest_67 : decode cX12_digest 67 = .ok (.iload_n 3, 1) := by decide +kernel
theorem dX12_digest_68 : decode cX12_digest 68 = .ok (.aload_n 0, 1) := by decide +kernel
theorem dX12_digest_69 : decode cX12_digest 69 = .ok (.getfield 165, 3) := by decide +kernel
theorem dX12_digest_72 : decode cX12_digest 72 = .ok (.if_icmp .ge 169, 3) := by decide +kernel
theorem dX12_digest_75 : decode cX12_digest 75 = .ok (.lload_n 1, 1) := by decide +kernel
theorem dX12_digest_76 : decode cX12_digest 76 = .ok (.ldc2_w 367, 3) := by decide +kernel
theorem dX12_digest_79 : decode cX12_digest 79 = .ok (.lmul, 1) := by decide +kernel
theorem dX12_digest_80 : decode cX12_digest 80 = .ok (.aload_n 0, 1) := by decide +kernel
theorem dX12_digest_81 : decode cX12_digest 81 = .ok (.getfield 63, 3) := by decide +kernel
theorem dX12_digest_84 : decode cX12_digest 84 = .ok (.iload_n 3, 1) := by decide +kernel
theorem dX12_digest_85 : decode cX12_digest 85 = .ok (.baload, 1) := by decide +kernel
theorem dX12_digest_86 : decode cX12_digest 86 = .ok (.ifCond .eq 7, 3) := by decide +kernel
theorem dX12_digest_89 : decode cX12_digest 89 = .ok (.lconst 1, 1) := by decide +kernel
theorem dX12_digest_90 : decode cX12_digest 90 = .ok (.goto 4, 3) := by decide +kernel
theorem dX12_digest_93 : decode cX12_digest 93 = .ok (.lconst 0, 1) := by decide +kernel
theorem dX12_digest_94 : decode cX12_digest 94 = .ok (.ladd, 1) := by decide +kernel
theorem dX12_digest_95 : decode cX12_digest 95 = .ok (.lstore_n 1, 1) := by decide +kernel
theorem dX12_digest_96 : decode cX12_digest 96 = .ok (.aload_n 0, 1) := by decide +kernel
theorem dX12_digest_97 : decode cX12_digest 97 = .ok (.getfield 63, 3) := by decide +kernel
theorem dX12_digest_100 : decode cX12_digest 100 = .ok (.iload_n 3, 1) := by decide +kernel
theorem dX12_digest_101 : decode cX12_digest 101 = .ok (.baload, 1) := by decide +kernel
theorem dX12_digest_102 : decode cX12_digest 102 = .ok (.ifCond .ne 6, 3) := by decide +kernel
theorem dX12_digest_105 : decode cX12_digest 105 = .ok (.goto 130, 3) := by decide +kernel
theorem dX12_digest_108 : decode cX12_digest 108 = .ok (.lload_n 1, 1) := by decide +kernel
theorem dX12_digest_109 : decode cX12_digest 109 = .ok (.ldc2_w 367, 3) := by decide +kernel
theorem dX12_digest_112 : decode cX12_digest 112 = .ok (.lmul, 1) := by decide +kernel
theorem dX12_digest_113 : decode cX12_digest 113 = .ok (.aload_n 0, 1) := by decide +kernel
theorem dX12_digest_114 : decode cX12_digest 114 = .ok (.getfield 66, 3) := by decide +kernel
theorem dX12_digest_117 : decode cX12_digest 117 = .ok (.bipush 26, 2) := by decide +kernel
theorem dX12_digest_119 : decode cX12_digest 119 = .ok (.iload_n 3, 1) := by decide +kernel
theorem dX12_digest_120 : decode cX12_digest 120 = .ok (.imul, 1) := by decide +kernel
theorem dX12_digest_121 : decode cX12_digest 121 = .ok (.bipush 24, 2) := by decide +kernel
theorem dX12_digest_123 : decode cX12_digest 123 = .ok (.iadd, 1) := by decide +kernel
theorem dX12_digest_124 : decode cX12_digest 124 = .ok (.iaload, 1) := by decide +kernel
theorem dX12_digest_125 : decode cX12_digest 125 = .ok (.i2l, 1) := by decide +kernel
theorem dX12_digest_126 : decode cX12_digest 126 = .ok (.ladd, 1) := by decide +kernel
theorem dX12_digest_127 : decode cX12_digest 127 = .ok (.lstore_n 1, 1) := by decide +kernel
theorem dX12_digest_128 : decode cX12_digest 128 = .ok (.iconst 0, 1) := by decide +kernel
theorem dX12_digest_129 : decode cX12_digest 129 = .ok (.istore 4, 2) := by decide +kernel
theorem dX12_digest_131 : decode cX12_digest 131 = .ok (.iload 4, 2) := by decide +kernel
theorem dX12_digest_133 : decode cX12_digest 133 = .ok (.aload_n 0, 1) := by decide +kernel
theorem dX12_digest_134 : decode cX12_digest 134 = .ok (.getfield 162, 3) := by decide +kernel
theorem dX12_digest_137 : decode cX12_digest 137 = .ok (.if_icmp .ge 29, 3) := by decide +kernel
theorem dX12_digest_140 : decode cX12_digest 140 = .ok (.lload_n 1, 1) := by decide +kernel
theorem dX12_digest_141 : decode cX12_digest 141 = .ok (.ldc2_w 367, 3) := by decide +kernel
theorem dX12_digest_144 : decode cX12_digest 144 = .ok (.lmul, 1) := by decide +kernel
theorem dX12_digest_145 : decode cX12_digest 145 = .ok (.aload_n 0, 1) := by decide +kernel
theorem dX12_digest_146 : decode cX12_digest 146 = .ok (.getfield 66, 3) := by decide +kernel
theorem dX12_digest_149 : decode cX12_digest 149 = .ok (.bipush 26, 2) := by decide +kernel
theorem dX12_digest_151 : decode cX12_digest 151 = .ok (.iload_n 3, 1) := by decide +kernel
theorem dX12_digest_152 : decode cX12_digest 152 = .ok (.imul, 1) := by decide +kernel
theorem dX12_digest_153 : decode cX12_digest 153 = .ok (.iload 4, 2) := by decide +kernel
theorem dX12_digest_155 : decode cX12_digest 155 = .ok (.iadd, 1) := by decide +kernel
theorem dX12_digest_156 : decode cX12_digest 156 = .ok (.iaload, 1) := by decide +kernel
theorem dX12_digest_157 : decode cX12_digest 157 = .ok (.i2l, 1) := by decide +kernel
theorem dX12_digest_158 : decode cX12_digest 158 = .ok (.ladd, 1) := by decide +kernel
theorem dX12_digest_159 : decode cX12_digest 159 = .ok (.lstore_n 1, 1) := by decide +kernel
theorem dX12_digest_160 : decode cX12_digest 160 = .ok (.iinc 4 1, 3) := by decide +kernel
theorem dX12_digest_163 : decode cX12_digest 163 = .ok (.goto (-32), 3) := by decide +kernel
theorem dX12_digest_166 : decode cX12_digest 166 = .ok (.iconst 0, 1) := by decide +kernel
theorem dX12_digest_167 : decode cX12_digest 167 = .ok (.istore 4, 2) := by decide +kernel
theorem dX12_digest_169 : decode cX12_digest 169 = .ok (.iload 4, 2) := by decide +kernel
theorem dX12_digest_171 : decode cX12_digest 171 = .ok (.aload_n 0, 1) := by decide +kernel
theorem dX12_digest_172 : decode cX12_digest 172 = .ok (.getfield 66, 3) := by decide +kernel
theorem dX12_digest_175 : decode cX12_digest 175 = .ok (.bipush 26, 2) := by decide +kernel
theorem dX12_digest_177 : decode cX12_digest 177 = .ok (.iload_n 3, 1) := by decide +kernel
theorem dX12_digest_178 : decode cX12_digest 178 = .ok (.imul, 1) := by decide +kernel
theorem dX12_digest_179 : decode cX12_digest 179 = .ok (.bipush 24, 2) := by decide +kernel
theorem dX12_digest_181 : decode cX12_digest 181 = .ok (.iadd, 1) := by decide +kernel
theorem dX12_digest_182 : decode cX12_digest 182 = .ok (.iaload, 1) := by decide +kernel
theorem dX12_digest_183 : decode cX12_digest 183 = .ok (.if_icmp .ge 32, 3) := by decide +kernel
theorem dX12_digest_186 : decode cX12_digest 186 = .ok (.lload_n 1, 1) := by decide +kernel
theorem dX12_digest_187 : decode cX12_digest 187 = .ok (.ldc2_w 367, 3) := by decide +kernel
theorem dX12_digest_190 : decode cX12_digest 190 = .ok (.lmul, 1) := by decide +kernel
theorem dX12_digest_191 : decode cX12_digest 191 = .ok (.aload_n 0, 1) := by decide +kernel
theorem dX12_digest_192 : decode cX12_digest 192 = .ok (.getfield 66, 3) := by decide +kernel
theorem dX12_digest_195 : decode cX12_digest 195 = .ok (.bipush 26, 2) := by decide +kernel
theorem dX12_digest_197 : decode cX12_digest 197 = .ok (.iload_n 3, 1) := by decide +kernel
theorem dX12_digest_198 : decode cX12_digest 198 = .ok (.imul, 1) := by decide +kernel
theorem dX12_digest_199 : decode cX12_digest 199 = .ok (.bipush 12, 2) := by decide +kernel
theorem dX12_digest_201 : decode cX12_digest 201 = .ok (.iadd, 1) := by decide +kernel
theorem dX12_digest_202 : decode cX12_digest 202 = .ok (.iload 4, 2) := by decide +kernel
theorem dX12_digest_204 : decode cX12_digest 204 = .ok (.iadd, 1) := by decide +kernel
theorem dX12_digest_205 : decode cX12_digest 205 = .ok (.iaload, 1) := by decide +kernel
theorem dX12_digest_206 : decode cX12_digest 206 = .ok (.i2l, 1) := by decide +kernel
theorem dX12_digest_207 : decode cX12_digest 207 = .ok (.ladd, 1) := by decide +kernel
theorem dX12_digest_208 : decode cX12_digest 208 = .ok (.lstore_n 1, 1) := by decide +kernel
theorem dX12_digest_209 : decode cX12_digest 209 = .ok (.iinc 4 1, 3) := by decide +kernel
theorem dX12_digest_212 : decode cX12_digest 212 = .ok (.goto (-43), 3) := by decide +kernel
theorem dX12_digest_215 : decode cX12_digest 215 = .ok (.lload_n 1, 1) := by decide +kernel
theorem dX12_digest_216 : decode cX12_digest 216 = .ok (.ldc2_w 367, 3) := by decide +kernel
theorem dX12_digest_219 : decode cX12_digest 219 = .ok (.lmul, 1) := by decide +kernel
theorem dX12_digest_220 : decode cX12_digest 220 = .ok (.aload_n 0, 1) := by decide +kernel
theorem dX12_digest_221 : decode cX12_digest 221 = .ok (.getfield 66, 3) := by decide +kernel
theorem dX12_digest_224 : decode cX12_digest 224 = .ok (.bipush 26, 2) := by decide +kernel
theorem dX12_digest_226 : decode cX12_digest 226 = .ok (.iload_n 3, 1) := by decide +kernel
theorem dX12_digest_227 : decode cX12_digest 227 = .ok (.imul, 1) := by decide +kernel
theorem dX12_digest_228 : decode cX12_digest 228 = .ok (.bipush 25, 2) := by decide +kernel
theorem dX12_digest_230 : decode cX12_digest 230 = .ok (.iadd, 1) := by decide +kernel
theorem dX12_digest_231 : decode cX12_digest 231 = .ok (.iaload, 1) := by decide +kernel
theorem dX12_digest_232 : decode cX12_digest 232 = .ok (.i2l, 1) := by decide +kernel
theorem dX12_digest_233 : decode cX12_digest 233 = .ok (.ladd, 1) := by decide +kernel
theorem dX12_digest_234 : decode cX12_digest 234 = .ok (.lstore_n 1, 1) := by decide +kernel
theorem dX12_digest_235 : decode cX12_digest 235 = .ok (.iinc 3 1, 3) := by decide +kernel
theorem dX12_digest_238 : decode cX12_digest 238 = .ok (.goto (-171), 3) := by decide +kernel
theorem dX12_digest_241 : decode cX12_digest 241 = .ok (.lload_n 1, 1) := by decide +kernel
theorem dX12_digest_242 : decode cX12_digest 242 = .ok (.lreturn, 1) := by decide +kernel
