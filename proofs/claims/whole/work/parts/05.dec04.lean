theorem dX12_declareFrame_135 : decode cX12_declareFrame 135 = .ok (.bipush 12, 2) := by decide +kernel
theorem dX12_declareFrame_137 : decode cX12_declareFrame 137 = .ok (.iadd, 1) := by decide +kernel
theorem dX12_declareFrame_138 : decode cX12_declareFrame 138 = .ok (.iload 5, 2) := by decide +kernel
theorem dX12_declareFrame_140 : decode cX12_declareFrame 140 = .ok (.iadd, 1) := by decide +kernel
theorem dX12_declareFrame_141 : decode cX12_declareFrame 141 = .ok (.iload 5, 2) := by decide +kernel
theorem dX12_declareFrame_143 : decode cX12_declareFrame 143 = .ok (.iload 4, 2) := by decide +kernel
theorem dX12_declareFrame_145 : decode cX12_declareFrame 145 = .ok (.if_icmp .ge 16, 3) := by decide +kernel
theorem dX12_declareFrame_148 : decode cX12_declareFrame 148 = .ok (.aload_n 0, 1) := by decide +kernel
theorem dX12_declareFrame_149 : decode cX12_declareFrame 149 = .ok (.getfield 75, 3) := by decide +kernel
theorem dX12_declareFrame_152 : decode cX12_declareFrame 152 = .ok (.bipush 12, 2) := by decide +kernel
theorem dX12_declareFrame_154 : decode cX12_declareFrame 154 = .ok (.iload 5, 2) := by decide +kernel
theorem dX12_declareFrame_156 : decode cX12_declareFrame 156 = .ok (.iadd, 1) := by decide +kernel
theorem dX12_declareFrame_157 : decode cX12_declareFrame 157 = .ok (.iaload, 1) := by decide +kernel
theorem dX12_declareFrame_158 : decode cX12_declareFrame 158 = .ok (.goto 5, 3) := by decide +kernel
theorem dX12_declareFrame_161 : decode cX12_declareFrame 161 = .ok (.bipush (-2), 2) := by decide +kernel
theorem dX12_declareFrame_163 : decode cX12_declareFrame 163 = .ok (.iastore, 1) := by decide +kernel
theorem dX12_declareFrame_164 : decode cX12_declareFrame 164 = .ok (.iinc 5 1, 3) := by decide +kernel
theorem dX12_declareFrame_167 : decode cX12_declareFrame 167 = .ok (.goto (-77), 3) := by decide +kernel
theorem dX12_declareFrame_170 : decode cX12_declareFrame 170 = .ok (.aload_n 0, 1) := by decide +kernel
theorem dX12_declareFrame_171 : decode cX12_declareFrame 171 = .ok (.getfield 72, 3) := by decide +kernel
theorem dX12_declareFrame_174 : decode cX12_declareFrame 174 = .ok (.bipush 26, 2) := by decide +kernel
theorem dX12_declareFrame_176 : decode cX12_declareFrame 176 = .ok (.iload_n 1, 1) := by decide +kernel
theorem dX12_declareFrame_177 : decode cX12_declareFrame 177 = .ok (.imul, 1) := by decide +kernel
theorem dX12_declareFrame_178 : decode cX12_declareFrame 178 = .ok (.bipush 24, 2) := by decide +kernel
theorem dX12_declareFrame_180 : decode cX12_declareFrame 180 = .ok (.iadd, 1) := by decide +kernel
theorem dX12_declareFrame_181 : decode cX12_declareFrame 181 = .ok (.iload 4, 2) := by decide +kernel
theorem dX12_declareFrame_183 : decode cX12_declareFrame 183 = .ok (.iastore, 1) := by decide +kernel
theorem dX12_declareFrame_184 : decode cX12_declareFrame 184 = .ok (.aload_n 0, 1) := by decide +kernel
theorem dX12_declareFrame_185 : decode cX12_declareFrame 185 = .ok (.getfield 72, 3) := by decide +kernel
theorem dX12_declareFrame_188 : decode cX12_declareFrame 188 = .ok (.bipush 26, 2) := by decide +kernel
theorem dX12_declareFrame_190 : decode cX12_declareFrame 190 = .ok (.iload_n 1, 1) := by decide +kernel
theorem dX12_declareFrame_191 : decode cX12_declareFrame 191 = .ok (.imul, 1) := by decide +kernel
theorem dX12_declareFrame_192 : decode cX12_declareFrame 192 = .ok (.bipush 25, 2) := by decide +kernel
theorem dX12_declareFrame_194 : decode cX12_declareFrame 194 = .ok (.iadd, 1) := by decide +kernel
theorem dX12_declareFrame_195 : decode cX12_declareFrame 195 = .ok (.iload_n 2, 1) := by decide +kernel
theorem dX12_declareFrame_196 : decode cX12_declareFrame 196 = .ok (.ifCond .eq 7, 3) := by decide +kernel
theorem dX12_declareFrame_199 : decode cX12_declareFrame 199 = .ok (.iconst 1, 1) := by decide +kernel
theorem dX12_declareFrame_200 : decode cX12_declareFrame 200 = .ok (.goto 4, 3) := by decide +kernel
theorem dX12_declareFrame_203 : decode cX12_declareFrame 203 = .ok (.iconst 0, 1) := by decide +kernel
theorem dX12_declareFrame_204 : decode cX12_declareFrame 204 = .ok (.iastore, 1) := by decide +kernel
theorem dX12_declareFrame_205 : decode cX12_declareFrame 205 = .ok (.aload_n 0, 1) := by decide +kernel
theorem dX12_declareFrame_206 : decode cX12_declareFrame 206 = .ok (.getfield 69, 3) := by decide +kernel
theorem dX12_declareFrame_209 : decode cX12_declareFrame 209 = .ok (.iload_n 1, 1) := by decide +kernel
theorem dX12_declareFrame_210 : decode cX12_declareFrame 210 = .ok (.iconst 1, 1) := by decide +kernel
theorem dX12_declareFrame_211 : decode cX12_declareFrame 211 = .ok (.bastore, 1) := by decide +kernel
theorem dX12_declareFrame_212 : decode cX12_declareFrame 212 = .ok (.aload_n 0, 1) := by decide +kernel
theorem dX12_declareFrame_213 : decode cX12_declareFrame 213 = .ok (.invokevirtual 189, 3) := by decide +kernel
theorem dX12_declareFrame_216 : decode cX12_declareFrame 216 = .ok (.ireturn, 1) := by decide +kernel
theorem dX12_adopt_0 : decode cX12_adopt 0 = .ok (.aload_n 0, 1) := by decide +kernel
theorem dX12_adopt_1 : decode cX12_adopt 1 = .ok (.getfield 69, 3) := by decide +kernel
theorem dX12_adopt_4 : decode cX12_adopt 4 = .ok (.iload_n 1, 1) := by decide +kernel
theorem dX12_adopt_5 : decode cX12_adopt 5 = .ok (.iconst 1, 1) := by decide +kernel
theorem dX12_adopt_6 : decode cX12_adopt 6 = .ok (.bastore, 1) := by decide +kernel
theorem dX12_adopt_7 : decode cX12_adopt 7 = .ok (.iconst 0, 1) := by decide +kernel
theorem dX12_adopt_8 : decode cX12_adopt 8 = .ok (.istore_n 2, 1) := by decide +kernel
theorem dX12_adopt_9 : decode cX12_adopt 9 = .ok (.iload_n 2, 1) := by decide +kernel
theorem dX12_adopt_10 : decode cX12_adopt 10 = .ok (.bipush 26, 2) := by decide +kernel
theorem dX12_adopt_12 : decode cX12_adopt 12 = .ok (.if_icmp .ge 31, 3) := by decide +kernel
theorem dX12_adopt_15 : decode cX12_adopt 15 = .ok (.aload_n 0, 1) := by decide +kernel
theorem dX12_adopt_16 : decode cX12_adopt 16 = .ok (.getfield 72, 3) := by decide +kernel
theorem dX12_adopt_19 : decode cX12_adopt 19 = .ok (.bipush 26, 2) := by decide +kernel
theorem dX12_adopt_21 : decode cX12_adopt 21 = .ok (.iload_n 1, 1) := by decide +kernel
theorem dX12_adopt_22 : decode cX12_adopt 22 = .ok (.imul, 1) := by decide +kernel
theorem dX12_adopt_23 : decode cX12_adopt 23 = .ok (.iload_n 2, 1) := by decide +kernel
theorem dX12_adopt_24 : decode cX12_adopt 24 = .ok (.iadd, 1) := by decide +kernel
theorem dX12_adopt_25 : decode cX12_adopt 25 = .ok (.aload_n 0, 1) := by decide +kernel
theorem dX12_adopt_26 : decode cX12_adopt 26 = .ok (.getfield 66, 3) := by decide +kernel
theorem dX12_adopt_29 : decode cX12_adopt 29 = .ok (.bipush 26, 2) := by decide +kernel
theorem dX12_adopt_31 : decode cX12_adopt 31 = .ok (.iload_n 1, 1) := by decide +kernel
theorem dX12_adopt_32 : decode cX12_adopt 32 = .ok (.imul, 1) := by decide +kernel
theorem dX12_adopt_33 : decode cX12_adopt 33 = .ok (.iload_n 2, 1) := by decide +kernel
theorem dX12_adopt_34 : decode cX12_adopt 34 = .ok (.iadd, 1) := by decide +kernel
theorem dX12_adopt_35 : decode cX12_adopt 35 = .ok (.iaload, 1) := by decide +kernel
theorem dX12_adopt_36 : decode cX12_adopt 36 = .ok (.iastore, 1) := by decide +kernel
theorem dX12_adopt_37 : decode cX12_adopt 37 = .ok (.iinc 2 1, 3) := by decide +kernel
theorem dX12_adopt_40 : decode cX12_adopt 40 = .ok (.goto (-31), 3) := by decide +kernel
theorem dX12_adopt_43 : decode cX12_adopt 43 = .ok (.return_, 1) := by decide +kernel
theorem dX12_adoptFrames_0 : decode cX12_adoptFrames 0 = .ok (.aload_n 0, 1) := by decide +kernel
theorem dX12_adoptFrames_1 : decode cX12_adoptFrames 1 = .ok (.iconst 0, 1) := by decide +kernel
theorem dX12_adoptFrames_2 : decode cX12_adoptFrames 2 = .ok (.putfield 90, 3) := by decide +kernel
theorem dX12_adoptFrames_5 : decode cX12_adoptFrames 5 = .ok (.aload_n 0, 1) := by decide +kernel
theorem dX12_adoptFrames_6 : decode cX12_adoptFrames 6 = .ok (.getfield 177, 3) := by decide +kernel
theorem dX12_adoptFrames_9 : decode cX12_adoptFrames 9 = .ok (.ifCond .ne 9, 3) := by decide +kernel
theorem dX12_adoptFrames_12 : decode cX12_adoptFrames 12 = .ok (.aload_n 0, 1) := by decide +kernel
theorem dX12_adoptFrames_13 : decode cX12_adoptFrames 13 = .ok (.iconst 1, 1) := by decide +kernel
theorem dX12_adoptFrames_14 : decode cX12_adoptFrames 14 = .ok (.invokevirtual 126, 3) := by decide +kernel
theorem dX12_adoptFrames_17 : decode cX12_adoptFrames 17 = .ok (.ireturn, 1) := by decide +kernel
theorem dX12_adoptFrames_18 : decode cX12_adoptFrames 18 = .ok (.iconst 0, 1) := by decide +kernel
theorem dX12_adoptFrames_19 : decode cX12_adoptFrames 19 = .ok (.istore_n 1, 1) := by decide +kernel
theorem dX12_adoptFrames_20 : decode cX12_adoptFrames 20 = .ok (.iload_n 1, 1) := by decide +kernel
theorem dX12_adoptFrames_21 : decode cX12_adoptFrames 21 = .ok (.bipush 100, 2) := by decide +kernel
theorem dX12_adoptFrames_23 : decode cX12_adoptFrames 23 = .ok (.if_icmp .ge 16, 3) := by decide +kernel
theorem dX12_adoptFrames_26 : decode cX12_adoptFrames 26 = .ok (.aload_n 0, 1) := by decide +kernel
theorem dX12_adoptFrames_27 : decode cX12_adoptFrames 27 = .ok (.getfield 69, 3) := by decide +kernel
theorem dX12_adoptFrames_30 : decode cX12_adoptFrames 30 = .ok (.iload_n 1, 1) := by decide +kernel
theorem dX12_adoptFrames_31 : decode cX12_adoptFrames 31 = .ok (.iconst 0, 1) := by decide +kernel
theorem dX12_adoptFrames_32 : decode cX12_adoptFrames 32 = .ok (.bastore, 1) := by decide +kernel
theorem dX12_adoptFrames_33 : decode cX12_adoptFrames 33 = .ok (.iinc 1 1, 3) := by decide +kernel
theorem dX12_adoptFrames_36 : decode cX12_adoptFrames 36 = .ok (.goto (-16), 3) := by decide +kernel
theorem dX12_adoptFrames_39 : decode cX12_adoptFrames 39 = .ok (.iconst 0, 1) := by decide +kernel
theorem dX12_adoptFrames_40 : decode cX12_adoptFrames 40 = .ok (.istore_n 1, 1) := by decide +kernel
theorem dX12_adoptFrames_41 : decode cX12_adoptFrames 41 = .ok (.iload_n 1, 1) := by decide +kernel
theorem dX12_adoptFrames_42 : decode cX12_adoptFrames 42 = .ok (.aload_n 0, 1) := by decide +kernel
theorem dX12_adoptFrames_43 : decode cX12_adoptFrames 43 = .ok (.getfield 165, 3) := by decide +kernel
theorem dX12_adoptFrames_46 : decode cX12_adoptFrames 46 = .ok (.if_icmp .ge 127, 3) := by decide +kernel
theorem dX12_adoptFrames_49 : decode cX12_adoptFrames 49 = .ok (.aload_n 0, 1) := by decide +kernel
theorem dX12_adoptFrames_50 : decode cX12_adoptFrames 50 = .ok (.getfield 63, 3) := by decide +kernel
theorem dX12_adoptFrames_53 : decode cX12_adoptFrames 53 = .ok (.iload_n 1, 1) := by decide +kernel
theorem dX12_adoptFrames_54 : decode cX12_adoptFrames 54 = .ok (.baload, 1) := by decide +kernel
theorem dX12_adoptFrames_55 : decode cX12_adoptFrames 55 = .ok (.ifCond .eq 25, 3) := by decide +kernel
theorem dX12_adoptFrames_58 : decode cX12_adoptFrames 58 = .ok (.aload_n 0, 1) := by decide +kernel
theorem dX12_adoptFrames_59 : decode cX12_adoptFrames 59 = .ok (.getfield 45, 3) := by decide +kernel
theorem dX12_adoptFrames_62 : decode cX12_adoptFrames 62 = .ok (.iload_n 1, 1) := by decide +kernel
theorem dX12_adoptFrames_63 : decode cX12_adoptFrames 63 = .ok (.iaload, 1) := by decide +kernel
theorem dX12_adoptFrames_64 : decode cX12_adoptFrames 64 = .ok (.invokestatic 192, 3) := by decide +kernel
theorem dX12_adoptFrames_67 : decode cX12_adoptFrames 67 = .ok (.ifCond .eq 13, 3) := by decide +kernel
theorem dX12_adoptFrames_70 : decode cX12_adoptFrames 70 = .ok (.aload_n 0, 1) := by decide +kernel
theorem dX12_adoptFrames_71 : decode cX12_adoptFrames 71 = .ok (.aload_n 0, 1) := by decide +kernel
theorem dX12_adoptFrames_72 : decode cX12_adoptFrames 72 = .ok (.getfield 48, 3) := by decide +kernel
theorem dX12_adoptFrames_75 : decode cX12_adoptFrames 75 = .ok (.iload_n 1, 1) := by decide +kernel
theorem dX12_adoptFrames_76 : decode cX12_adoptFrames 76 = .ok (.iaload, 1) := by decide +kernel
theorem dX12_adoptFrames_77 : decode cX12_adoptFrames 77 = .ok (.invokevirtual 195, 3) := by decide +kernel
theorem dX12_adoptFrames_80 : decode cX12_adoptFrames 80 = .ok (.aload_n 0, 1) := by decide +kernel
theorem dX12_adoptFrames_81 : decode cX12_adoptFrames 81 = .ok (.getfield 63, 3) := by decide +kernel
theorem dX12_adoptFrames_84 : decode cX12_adoptFrames 84 = .ok (.iload_n 1, 1) := by decide +kernel
theorem dX12_adoptFrames_85 : decode cX12_adoptFrames 85 = .ok (.baload, 1) := by decide +kernel
theorem dX12_adoptFrames_86 : decode cX12_adoptFrames 86 = .ok (.ifCond .eq 26, 3) := by decide +kernel
theorem dX12_adoptFrames_89 : decode cX12_adoptFrames 89 = .ok (.iload_n 1, 1) := by decide +kernel
theorem dX12_adoptFrames_90 : decode cX12_adoptFrames 90 = .ok (.ifCond .le 22, 3) := by decide +kernel
theorem dX12_adoptFrames_93 : decode cX12_adoptFrames 93 = .ok (.aload_n 0, 1) := by decide +kernel
theorem dX12_adoptFrames_94 : decode cX12_adoptFrames 94 = .ok (.getfield 45, 3) := by decide +kernel
theorem dX12_adoptFrames_97 : decode cX12_adoptFrames 97 = .ok (.iload_n 1, 1) := by decide +kernel
theorem dX12_adoptFrames_98 : decode cX12_adoptFrames 98 = .ok (.iconst 1, 1) := by decide +kernel
theorem dX12_adoptFrames_99 : decode cX12_adoptFrames 99 = .ok (.isub, 1) := by decide +kernel
theorem dX12_adoptFrames_100 : decode cX12_adoptFrames 100 = .ok (.iaload, 1) := by decide +kernel
theorem dX12_adoptFrames_101 : decode cX12_adoptFrames 101 = .ok (.invokestatic 199, 3) := by decide +kernel
theorem dX12_adoptFrames_104 : decode cX12_adoptFrames 104 = .ok (.ifCond .ne 8, 3) := by decide +kernel
theorem dX12_adoptFrames_107 : decode cX12_adoptFrames 107 = .ok (.aload_n 0, 1) := by decide +kernel
theorem dX12_adoptFrames_108 : decode cX12_adoptFrames 108 = .ok (.iload_n 1, 1) := by decide +kernel
theorem dX12_adoptFrames_109 : decode cX12_adoptFrames 109 = .ok (.invokevirtual 195, 3) := by decide +kernel
theorem dX12_adoptFrames_112 : decode cX12_adoptFrames 112 = .ok (.iconst 0, 1) := by decide +kernel
theorem dX12_adoptFrames_113 : decode cX12_adoptFrames 113 = .ok (.istore_n 2, 1) := by decide +kernel
theorem dX12_adoptFrames_114 : decode cX12_adoptFrames 114 = .ok (.iload_n 2, 1) := by decide +kernel
theorem dX12_adoptFrames_115 : decode cX12_adoptFrames 115 = .ok (.aload_n 0, 1) := by decide +kernel
theorem dX12_adoptFrames_116 : decode cX12_adoptFrames 116 = .ok (.getfield 168, 3) := by decide +kernel
theorem dX12_adoptFrames_119 : decode cX12_adoptFrames 119 = .ok (.if_icmp .ge 48, 3) := by decide +kernel
theorem dX12_adoptFrames_122 : decode cX12_adoptFrames 122 = .ok (.aload_n 0, 1) := by decide +kernel
theorem dX12_adoptFrames_123 : decode cX12_adoptFrames 123 = .ok (.getfield 63, 3) := by decide +kernel
theorem dX12_adoptFrames_126 : decode cX12_adoptFrames 126 = .ok (.iload_n 1, 1) := by decide +kernel
theorem dX12_adoptFrames_127 : decode cX12_adoptFrames 127 = .ok (.baload, 1) := by decide +kernel
theorem dX12_adoptFrames_128 : decode cX12_adoptFrames 128 = .ok (.ifCond .eq 33, 3) := by decide +kernel
theorem dX12_adoptFrames_131 : decode cX12_adoptFrames 131 = .ok (.aload_n 0, 1) := by decide +kernel
theorem dX12_adoptFrames_132 : decode cX12_adoptFrames 132 = .ok (.getfield 51, 3) := by decide +kernel
theorem dX12_adoptFrames_135 : decode cX12_adoptFrames 135 = .ok (.iload_n 2, 1) := by decide +kernel
theorem dX12_adoptFrames_136 : decode cX12_adoptFrames 136 = .ok (.iaload, 1) := by decide +kernel
theorem dX12_adoptFrames_137 : decode cX12_adoptFrames 137 = .ok (.iload_n 1, 1) := by decide +kernel
theorem dX12_adoptFrames_138 : decode cX12_adoptFrames 138 = .ok (.if_icmp .gt 23, 3) := by decide +kernel
theorem dX12_adoptFrames_141 : decode cX12_adoptFrames 141 = .ok (.iload_n 1, 1) := by decide +kernel
theorem dX12_adoptFrames_142 : decode cX12_adoptFrames 142 = .ok (.aload_n 0, 1) := by decide +kernel
theorem dX12_adoptFrames_143 : decode cX12_adoptFrames 143 = .ok (.getfield 54, 3) := by decide +kernel
theorem dX12_adoptFrames_146 : decode cX12_adoptFrames 146 = .ok (.iload_n 2, 1) := by decide +kernel
theorem dX12_adoptFrames_147 : decode cX12_adoptFrames 147 = .ok (.iaload, 1) := by decide +kernel
theorem dX12_adoptFrames_148 : decode cX12_adoptFrames 148 = .ok (.if_icmp .ge 13, 3) := by decide +kernel
theorem dX12_adoptFrames_151 : decode cX12_adoptFrames 151 = .ok (.aload_n 0, 1) := by decide +kernel
theorem dX12_adoptFrames_152 : decode cX12_adoptFrames 152 = .ok (.aload_n 0, 1) := by decide +kernel
theorem dX12_adoptFrames_153 : decode cX12_adoptFrames 153 = .ok (.getfield 57, 3) := by decide +kernel
theorem dX12_adoptFrames_156 : decode cX12_adoptFrames 156 = .ok (.iload_n 2, 1) := by decide +kernel
theorem dX12_adoptFrames_157 : decode cX12_adoptFrames 157 = .ok (.iaload, 1) := by decide +kernel
theorem dX12_adoptFrames_158 : decode cX12_adoptFrames 158 = .ok (.invokevirtual 195, 3) := by decide +kernel
theorem dX12_adoptFrames_161 : decode cX12_adoptFrames 161 = .ok (.iinc 2 1, 3) := by decide +kernel
theorem dX12_adoptFrames_164 : decode cX12_adoptFrames 164 = .ok (.goto (-50), 3) := by decide +kernel
theorem dX12_adoptFrames_167 : decode cX12_adoptFrames 167 = .ok (.iinc 1 1, 3) := by decide +kernel
theorem dX12_adoptFrames_170 : decode cX12_adoptFrames 170 = .ok (.goto (-129), 3) := by decide +kernel
theorem dX12_adoptFrames_173 : decode cX12_adoptFrames 173 = .ok (.aload_n 0, 1) := by decide +kernel
theorem dX12_adoptFrames_174 : decode cX12_adoptFrames 174 = .ok (.invokevirtual 189, 3) := by decide +kernel
theorem dX12_adoptFrames_177 : decode cX12_adoptFrames 177 = .ok (.ireturn, 1) := by decide +kernel
theorem dX12_isJump_0 : decode cX12_isJump 0 = .ok (.iload_n 0, 1) := by decide +kernel
theorem dX12_isJump_1 : decode cX12_isJump 1 = .ok (.bipush 22, 2) := by decide +kernel
theorem dX12_isJump_3 : decode cX12_isJump 3 = .ok (.if_icmp .lt 13, 3) := by decide +kernel
theorem dX12_isJump_6 : decode cX12_isJump 6 = .ok (.iload_n 0, 1) := by decide +kernel
theorem dX12_isJump_7 : decode cX12_isJump 7 = .ok (.bipush 26, 2) := by decide +kernel
theorem dX12_isJump_9 : decode cX12_isJump 9 = .ok (.if_icmp .gt 7, 3) := by decide +kernel
theorem dX12_isJump_12 : decode cX12_isJump 12 = .ok (.iconst 1, 1) := by decide +kernel
theorem dX12_isJump_13 : decode cX12_isJump 13 = .ok (.goto 4, 3) := by decide +kernel
theorem dX12_isJump_16 : decode cX12_isJump 16 = .ok (.iconst 0, 1) := by decide +kernel
theorem dX12_isJump_17 : decode cX12_isJump 17 = .ok (.ireturn, 1) := by decide +kernel
theorem dX12_goesOn_0 : decode cX12_goesOn 0 = .ok (.iload_n 0, 1) := by decide +kernel
theorem dX12_goesOn_1 : decode cX12_goesOn 1 = .ok (.bipush 22, 2) := by decide +kernel
theorem dX12_goesOn_3 : decode cX12_goesOn 3 = .ok (.if_icmp .eq 19, 3) := by decide +kernel
theorem dX12_goesOn_6 : decode cX12_goesOn 6 = .ok (.iload_n 0, 1) := by decide +kernel
theorem dX12_goesOn_7 : decode cX12_goesOn 7 = .ok (.bipush 27, 2) := by decide +kernel
theorem dX12_goesOn_9 : decode cX12_goesOn 9 = .ok (.if_icmp .lt 9, 3) := by decide +kernel
theorem dX12_goesOn_12 : decode cX12_goesOn 12 = .ok (.iload_n 0, 1) := by decide +kernel
theorem dX12_goesOn_13 : decode cX12_goesOn 13 = .ok (.bipush 31, 2) := by decide +kernel
theorem dX12_goesOn_15 : decode cX12_goesOn 15 = .ok (.if_icmp .le 7, 3) := by decide +kernel
theorem dX12_goesOn_18 : decode cX12_goesOn 18 = .ok (.iconst 1, 1) := by decide +kernel
theorem dX12_goesOn_19 : decode cX12_goesOn 19 = .ok (.goto 4, 3) := by decide +kernel
theorem dX12_goesOn_22 : decode cX12_goesOn 22 = .ok (.iconst 0, 1) := by decide +kernel
theorem dX12_goesOn_23 : decode cX12_goesOn 23 = .ok (.ireturn, 1) := by decide +kernel
theorem dX12_fail_0 : decode cX12_fail 0 = .ok (.aload_n 0, 1) := by decide +kernel
theorem dX12_fail_1 : decode cX12_fail 1 = .ok (.getfield 202, 3) := by decide +kernel
theorem dX12_fail_4 : decode cX12_fail 4 = .ok (.ifCond .le 4, 3) := by decide +kernel
theorem dX12_fail_7 : decode cX12_fail 7 = .ok (.return_, 1) := by decide +kernel
theorem dX12_fail_8 : decode cX12_fail 8 = .ok (.aload_n 0, 1) := by decide +kernel
theorem dX12_fail_9 : decode cX12_fail 9 = .ok (.iload_n 1, 1) := by decide +kernel
theorem dX12_fail_10 : decode cX12_fail 10 = .ok (.putfield 202, 3) := by decide +kernel
theorem dX12_fail_13 : decode cX12_fail 13 = .ok (.aload_n 0, 1) := by decide +kernel
theorem dX12_fail_14 : decode cX12_fail 14 = .ok (.iload_n 2, 1) := by decide +kernel
theorem dX12_fail_15 : decode cX12_fail 15 = .ok (.putfield 78, 3) := by decide +kernel
theorem dX12_fail_18 : decode cX12_fail 18 = .ok (.return_, 1) := by decide +kernel
theorem dX12_isWell_0 : decode cX12_isWell 0 = .ok (.aload_n 0, 1) := by decide +kernel
theorem dX12_isWell_1 : decode cX12_isWell 1 = .ok (.getfield 202, 3) := by decide +kernel
theorem dX12_isWell_4 : decode cX12_isWell 4 = .ok (.ifCond .ne 7, 3) := by decide +kernel
theorem dX12_isWell_7 : decode cX12_isWell 7 = .ok (.iconst 1, 1) := by decide +kernel
theorem dX12_isWell_8 : decode cX12_isWell 8 = .ok (.goto 4, 3) := by decide +kernel
theorem dX12_isWell_11 : decode cX12_isWell 11 = .ok (.iconst 0, 1) := by decide +kernel
theorem dX12_isWell_12 : decode cX12_isWell 12 = .ok (.ireturn, 1) := by decide +kernel
theorem dX12_isOperand_0 : decode cX12_isOperand 0 = .ok (.iload_n 1, 1) := by decide +kernel
theorem dX12_isOperand_1 : decode cX12_isOperand 1 = .ok (.iconst 5, 1) := by decide +kernel
theorem dX12_isOperand_2 : decode cX12_isOperand 2 = .ok (.if_icmp .eq 9, 3) := by decide +kernel
theorem dX12_isOperand_5 : decode cX12_isOperand 5 = .ok (.iload_n 1, 1) := by decide +kernel
theorem dX12_isOperand_6 : decode cX12_isOperand 6 = .ok (.bipush 8, 2) := by decide +kernel
theorem dX12_isOperand_8 : decode cX12_isOperand 8 = .ok (.if_icmp .ne 23, 3) := by decide +kernel
theorem dX12_isOperand_11 : decode cX12_isOperand 11 = .ok (.iload_n 2, 1) := by decide +kernel
theorem dX12_isOperand_12 : decode cX12_isOperand 12 = .ok (.ifCond .lt 17, 3) := by decide +kernel
theorem dX12_isOperand_15 : decode cX12_isOperand 15 = .ok (.iload_n 2, 1) := by decide +kernel
theorem dX12_isOperand_16 : decode cX12_isOperand 16 = .ok (.aload_n 0, 1) := by decide +kernel
theorem dX12_isOperand_17 : decode cX12_isOperand 17 = .ok (.getfield 162, 3) := by decide +kernel
theorem dX12_isOperand_20 : decode cX12_isOperand 20 = .ok (.iconst 1, 1) := by decide +kernel
theorem dX12_isOperand_21 : decode cX12_isOperand 21 = .ok (.isub, 1) := by decide +kernel
theorem dX12_isOperand_22 : decode cX12_isOperand 22 = .ok (.if_icmp .ge 7, 3) := by decide +kernel
theorem dX12_isOperand_25 : decode cX12_isOperand 25 = .ok (.iconst 1, 1) := by decide +kernel
theorem dX12_isOperand_26 : decode cX12_isOperand 26 = .ok (.goto 4, 3) := by decide +kernel
theorem dX12_isOperand_29 : decode cX12_isOperand 29 = .ok (.iconst 0, 1) := by decide +kernel
theorem dX12_isOperand_30 : decode cX12_isOperand 30 = .ok (.ireturn, 1) := by decide +kernel
theorem dX12_isOperand_31 : decode cX12_isOperand 31 = .ok (.iload_n 1, 1) := by decide +kernel
theorem dX12_isOperand_32 : decode cX12_isOperand 32 = .ok (.iconst 4, 1) := by decide +kernel
theorem dX12_isOperand_33 : decode cX12_isOperand 33 = .ok (.if_icmp .lt 9, 3) := by decide +kernel
theorem dX12_isOperand_36 : decode cX12_isOperand 36 = .ok (.iload_n 1, 1) := by decide +kernel
theorem dX12_isOperand_37 : decode cX12_isOperand 37 = .ok (.bipush 9, 2) := by decide +kernel
theorem dX12_isOperand_39 : decode cX12_isOperand 39 = .ok (.if_icmp .le 9, 3) := by decide +kernel
theorem dX12_isOperand_42 : decode cX12_isOperand 42 = .ok (.iload_n 1, 1) := by decide +kernel
theorem dX12_isOperand_43 : decode cX12_isOperand 43 = .ok (.bipush 21, 2) := by decide +kernel
theorem dX12_isOperand_45 : decode cX12_isOperand 45 = .ok (.if_icmp .ne 21, 3) := by decide +kernel
theorem dX12_isOperand_48 : decode cX12_isOperand 48 = .ok (.iload_n 2, 1) := by decide +kernel
theorem dX12_isOperand_49 : decode cX12_isOperand 49 = .ok (.ifCond .lt 15, 3) := by decide +kernel
theorem dX12_isOperand_52 : decode cX12_isOperand 52 = .ok (.iload_n 2, 1) := by decide +kernel
theorem dX12_isOperand_53 : decode cX12_isOperand 53 = .ok (.aload_n 0, 1) := by decide +kernel
theorem dX12_isOperand_54 : decode cX12_isOperand 54 = .ok (.getfield 162, 3) := by decide +kernel
theorem dX12_isOperand_57 : decode cX12_isOperand 57 = .ok (.if_icmp .ge 7, 3) := by decide +kernel
theorem dX12_isOperand_60 : decode cX12_isOperand 60 = .ok (.iconst 1, 1) := by decide +kernel
theorem dX12_isOperand_61 : decode cX12_isOperand 61 = .ok (.goto 4, 3) := by decide +kernel
theorem dX12_isOperand_64 : decode cX12_isOperand 64 = .ok (.iconst 0, 1) := by decide +kernel
theorem dX12_isOperand_65 : decode cX12_isOperand 65 = .ok (.ireturn, 1) := by decide +kernel
theorem dX12_isOperand_66 : decode cX12_isOperand 66 = .ok (.iload_n 1, 1) := by decide +kernel
theorem dX12_isOperand_67 : decode cX12_isOperand 67 = .ok (.invokestatic 192, 3) := by decide +kernel
theorem dX12_isOperand_70 : decode cX12_isOperand 70 = .ok (.ifCond .eq 21, 3) := by decide +kernel
theorem dX12_isOperand_73 : decode cX12_isOperand 73 = .ok (.iload_n 2, 1) := by decide +kernel
theorem dX12_isOperand_74 : decode cX12_isOperand 74 = .ok (.ifCond .lt 15, 3) := by decide +kernel
theorem dX12_isOperand_77 : decode cX12_isOperand 77 = .ok (.iload_n 2, 1) := by decide +kernel
theorem dX12_isOperand_78 : decode cX12_isOperand 78 = .ok (.aload_n 0, 1) := by decide +kernel
theorem dX12_isOperand_79 : decode cX12_isOperand 79 = .ok (.getfield 165, 3) := by decide +kernel
theorem dX12_isOperand_82 : decode cX12_isOperand 82 = .ok (.if_icmp .ge 7, 3) := by decide +kernel
theorem dX12_isOperand_85 : decode cX12_isOperand 85 = .ok (.iconst 1, 1) := by decide +kernel
theorem dX12_isOperand_86 : decode cX12_isOperand 86 = .ok (.goto 4, 3) := by decide +kernel
theorem dX12_isOperand_89 : decode cX12_isOperand 89 = .ok (.iconst 0, 1) := by decide +kernel
theorem dX12_isOperand_90 : decode cX12_isOperand 90 = .ok (.ireturn, 1) := by decide +kernel
theorem dX12_isOperand_91 : decode cX12_isOperand 91 = .ok (.iload_n 1, 1) := by decide +kernel
theorem dX12_isOperand_92 : decode cX12_isOperand 92 = .ok (.bipush 32, 2) := by decide +kernel
theorem dX12_isOperand_94 : decode cX12_isOperand 94 = .ok (.if_icmp .eq 9, 3) := by decide +kernel
theorem dX12_isOperand_97 : decode cX12_isOperand 97 = .ok (.iload_n 1, 1) := by decide +kernel
theorem dX12_isOperand_98 : decode cX12_isOperand 98 = .ok (.bipush 33, 2) := by decide +kernel
theorem dX12_isOperand_100 : decode cX12_isOperand 100 = .ok (.if_icmp .ne 21, 3) := by decide +kernel
theorem dX12_isOperand_103 : decode cX12_isOperand 103 = .ok (.iload_n 2, 1) := by decide +kernel
theorem dX12_isOperand_104 : decode cX12_isOperand 104 = .ok (.ifCond .lt 15, 3) := by decide +kernel
theorem dX12_isOperand_107 : decode cX12_isOperand 107 = .ok (.iload_n 2, 1) := by decide +kernel
theorem dX12_isOperand_108 : decode cX12_isOperand 108 = .ok (.aload_n 0, 1) := by decide +kernel
theorem dX12_isOperand_109 : decode cX12_isOperand 109 = .ok (.getfield 136, 3) := by decide +kernel
theorem dX12_isOperand_112 : decode cX12_isOperand 112 = .ok (.if_icmp .ge 7, 3) := by decide +kernel
theorem dX12_isOperand_115 : decode cX12_isOperand 115 = .ok (.iconst 1, 1) := by decide +kernel
theorem dX12_isOperand_116 : decode cX12_isOperand 116 = .ok (.goto 4, 3) := by decide +kernel
theorem dX12_isOperand_119 : decode cX12_isOperand 119 = .ok (.iconst 0, 1) := by decide +kernel
theorem dX12_isOperand_120 : decode cX12_isOperand 120 = .ok (.ireturn, 1) := by decide +kernel
theorem dX12_isOperand_121 : decode cX12_isOperand 121 = .ok (.iload_n 1, 1) := by decide +kernel
theorem dX12_isOperand_122 : decode cX12_isOperand 122 = .ok (.bipush 34, 2) := by decide +kernel
theorem dX12_isOperand_124 : decode cX12_isOperand 124 = .ok (.if_icmp .ne 9, 3) := by decide +kernel
theorem dX12_isOperand_127 : decode cX12_isOperand 127 = .ok (.aload_n 0, 1) := by decide +kernel
theorem dX12_isOperand_128 : decode cX12_isOperand 128 = .ok (.iload_n 2, 1) := by decide +kernel
theorem dX12_isOperand_129 : decode cX12_isOperand 129 = .ok (.invokevirtual 109, 3) := by decide +kernel
theorem dX12_isOperand_132 : decode cX12_isOperand 132 = .ok (.ireturn, 1) := by decide +kernel
theorem dX12_isOperand_133 : decode cX12_isOperand 133 = .ok (.iload_n 1, 1) := by decide +kernel
theorem dX12_isOperand_134 : decode cX12_isOperand 134 = .ok (.bipush 35, 2) := by decide +kernel
theorem dX12_isOperand_136 : decode cX12_isOperand 136 = .ok (.if_icmp .lt 57, 3) := by decide +kernel
theorem dX12_isOperand_139 : decode cX12_isOperand 139 = .ok (.iload_n 1, 1) := by decide +kernel
theorem dX12_isOperand_140 : decode cX12_isOperand 140 = .ok (.bipush 37, 2) := by decide +kernel
theorem dX12_isOperand_142 : decode cX12_isOperand 142 = .ok (.if_icmp .gt 51, 3) := by decide +kernel
theorem dX12_isOperand_145 : decode cX12_isOperand 145 = .ok (.iload_n 2, 1) := by decide +kernel
theorem dX12_isOperand_146 : decode cX12_isOperand 146 = .ok (.ifCond .lt 45, 3) := by decide +kernel
theorem dX12_isOperand_149 : decode cX12_isOperand 149 = .ok (.iload_n 2, 1) := by decide +kernel
theorem dX12_isOperand_150 : decode cX12_isOperand 150 = .ok (.aload_n 0, 1) := by decide +kernel
theorem dX12_isOperand_151 : decode cX12_isOperand 151 = .ok (.getfield 149, 3) := by decide +kernel
theorem dX12_isOperand_154 : decode cX12_isOperand 154 = .ok (.if_icmp .ge 37, 3) := by decide +kernel
theorem dX12_isOperand_157 : decode cX12_isOperand 157 = .ok (.aload_n 0, 1) := by decide +kernel
theorem dX12_isOperand_158 : decode cX12_isOperand 158 = .ok (.getfield 30, 3) := by decide +kernel
theorem dX12_isOperand_161 : decode cX12_isOperand 161 = .ok (.iload_n 2, 1) := by decide +kernel
theorem dX12_isOperand_162 : decode cX12_isOperand 162 = .ok (.iaload, 1) := by decide +kernel
theorem dX12_isOperand_163 : decode cX12_isOperand 163 = .ok (.iload_n 1, 1) := by decide +kernel
theorem dX12_isOperand_164 : decode cX12_isOperand 164 = .ok (.bipush 35, 2) := by decide +kernel
theorem dX12_isOperand_166 : decode cX12_isOperand 166 = .ok (.if_icmp .ne 7, 3) := by decide +kernel
theorem dX12_isOperand_169 : decode cX12_isOperand 169 = .ok (.iconst 2, 1) := by decide +kernel
theorem dX12_isOperand_170 : decode cX12_isOperand 170 = .ok (.goto 14, 3) := by decide +kernel
theorem dX12_isOperand_173 : decode cX12_isOperand 173 = .ok (.iload_n 1, 1) := by decide +kernel
theorem dX12_isOperand_174 : decode cX12_isOperand 174 = .ok (.bipush 36, 2) := by decide +kernel
theorem dX12_isOperand_176 : decode cX12_isOperand 176 = .ok (.if_icmp .ne 7, 3) := by decide +kernel
theorem dX12_isOperand_179 : decode cX12_isOperand 179 = .ok (.iconst 0, 1) := by decide +kernel
theorem dX12_isOperand_180 : decode cX12_isOperand 180 = .ok (.goto 4, 3) := by decide +kernel
theorem dX12_isOperand_183 : decode cX12_isOperand 183 = .ok (.iconst 1, 1) := by decide +kernel
theorem dX12_isOperand_184 : decode cX12_isOperand 184 = .ok (.if_icmp .ne 7, 3) := by decide +kernel
theorem dX12_isOperand_187 : decode cX12_isOperand 187 = .ok (.iconst 1, 1) := by decide +kernel
theorem dX12_isOperand_188 : decode cX12_isOperand 188 = .ok (.goto 4, 3) := by decide +kernel
theorem dX12_isOperand_191 : decode cX12_isOperand 191 = .ok (.iconst 0, 1) := by decide +kernel
theorem dX12_isOperand_192 : decode cX12_isOperand 192 = .ok (.ireturn, 1) := by decide +kernel
theorem dX12_isOperand_193 : decode cX12_isOperand 193 = .ok (.iload_n 1, 1) := by decide +kernel
theorem dX12_isOperand_194 : decode cX12_isOperand 194 = .ok (.bipush 38, 2) := by decide +kernel
theorem dX12_isOperand_196 : decode cX12_isOperand 196 = .ok (.if_icmp .ne 25, 3) := by decide +kernel
theorem dX12_isOperand_199 : decode cX12_isOperand 199 = .ok (.aload_n 0, 1) := by decide +kernel
theorem dX12_isOperand_200 : decode cX12_isOperand 200 = .ok (.iload_n 2, 1) := by decide +kernel
theorem dX12_isOperand_201 : decode cX12_isOperand 201 = .ok (.invokevirtual 93, 3) := by decide +kernel
theorem dX12_isOperand_204 : decode cX12_isOperand 204 = .ok (.ifCond .eq 15, 3) := by decide +kernel
theorem dX12_isOperand_207 : decode cX12_isOperand 207 = .ok (.iload_n 2, 1) := by decide +kernel
theorem dX12_isOperand_208 : decode cX12_isOperand 208 = .ok (.bipush 8, 2) := by decide +kernel
theorem dX12_isOperand_210 : decode cX12_isOperand 210 = .ok (.irem, 1) := by decide +kernel
theorem dX12_isOperand_211 : decode cX12_isOperand 211 = .ok (.iconst 4, 1) := by decide +kernel
theorem dX12_isOperand_212 : decode cX12_isOperand 212 = .ok (.if_icmp .ge 7, 3) := by decide +kernel
theorem dX12_isOperand_215 : decode cX12_isOperand 215 = .ok (.iconst 1, 1) := by decide +kernel
theorem dX12_isOperand_216 : decode cX12_isOperand 216 = .ok (.goto 4, 3) := by decide +kernel
theorem dX12_isOperand_219 : decode cX12_isOperand 219 = .ok (.iconst 0, 1) := by decide +kernel
theorem dX12_isOperand_220 : decode cX12_isOperand 220 = .ok (.ireturn, 1) := by decide +kernel
theorem dX12_isOperand_221 : decode cX12_isOperand 221 = .ok (.iload_n 1, 1) := by decide +kernel
theorem dX12_isOperand_222 : decode cX12_isOperand 222 = .ok (.bipush 44, 2) := by decide +kernel
theorem dX12_isOperand_224 : decode cX12_isOperand 224 = .ok (.if_icmp .eq 9, 3) := by decide +kernel
theorem dX12_isOperand_227 : decode cX12_isOperand 227 = .ok (.iload_n 1, 1) := by decide +kernel
theorem dX12_isOperand_228 : decode cX12_isOperand 228 = .ok (.bipush 45, 2) := by decide +kernel
theorem dX12_isOperand_230 : decode cX12_isOperand 230 = .ok (.if_icmp .ne 11, 3) := by decide +kernel
theorem dX12_isOperand_233 : decode cX12_isOperand 233 = .ok (.aload_n 0, 1) := by decide +kernel
theorem dX12_isOperand_234 : decode cX12_isOperand 234 = .ok (.iload_n 2, 1) := by decide +kernel
theorem dX12_isOperand_235 : decode cX12_isOperand 235 = .ok (.invokevirtual 100, 3) := by decide +kernel
theorem dX12_isOperand_238 : decode cX12_isOperand 238 = .ok (.ifCond .eq 7, 3) := by decide +kernel
theorem dX12_isOperand_241 : decode cX12_isOperand 241 = .ok (.iconst 1, 1) := by decide +kernel
theorem dX12_isOperand_242 : decode cX12_isOperand 242 = .ok (.goto 4, 3) := by decide +kernel
theorem dX12_isOperand_245 : decode cX12_isOperand 245 = .ok (.iconst 0, 1) := by decide +kernel
theorem dX12_isOperand_246 : decode cX12_isOperand 246 = .ok (.ireturn, 1) := by decide +kernel
theorem dX12_isHandler_0 : decode cX12_isHandler 0 = .ok (.aload_n 0, 1) := by decide +kernel
theorem dX12_isHandler_1 : decode cX12_isHandler 1 = .ok (.getfield 51, 3) := by decide +kernel
theorem dX12_isHandler_4 : decode cX12_isHandler 4 = .ok (.iload_n 1, 1) := by decide +kernel
theorem dX12_isHandler_5 : decode cX12_isHandler 5 = .ok (.iaload, 1) := by decide +kernel
theorem dX12_isHandler_6 : decode cX12_isHandler 6 = .ok (.ifCond .lt 57, 3) := by decide +kernel
theorem dX12_isHandler_9 : decode cX12_isHandler 9 = .ok (.aload_n 0, 1) := by decide +kernel
theorem dX12_isHandler_10 : decode cX12_isHandler 10 = .ok (.getfield 51, 3) := by decide +kernel
theorem dX12_isHandler_13 : decode cX12_isHandler 13 = .ok (.iload_n 1, 1) := by decide +kernel
theorem dX12_isHandler_14 : decode cX12_isHandler 14 = .ok (.iaload, 1) := by decide +kernel
theorem dX12_isHandler_15 : decode cX12_isHandler 15 = .ok (.aload_n 0, 1) := by decide +kernel
theorem dX12_isHandler_16 : decode cX12_isHandler 16 = .ok (.getfield 54, 3) := by decide +kernel
theorem dX12_isHandler_19 : decode cX12_isHandler 19 = .ok (.iload_n 1, 1) := by decide +kernel
theorem dX12_isHandler_20 : decode cX12_isHandler 20 = .ok (.iaload, 1) := by decide +kernel
theorem dX12_isHandler_21 : decode cX12_isHandler 21 = .ok (.if_icmp .ge 42, 3) := by decide +kernel
theorem dX12_isHandler_24 : decode cX12_isHandler 24 = .ok (.aload_n 0, 1) := by decide +kernel
theorem dX12_isHandler_25 : decode cX12_isHandler 25 = .ok (.getfield 54, 3) := by decide +kernel
theorem dX12_isHandler_28 : decode cX12_isHandler 28 = .ok (.iload_n 1, 1) := by decide +kernel
theorem dX12_isHandler_29 : decode cX12_isHandler 29 = .ok (.iaload, 1) := by decide +kernel
theorem dX12_isHandler_30 : decode cX12_isHandler 30 = .ok (.aload_n 0, 1) := by decide +kernel
theorem dX12_isHandler_31 : decode cX12_isHandler 31 = .ok (.getfield 165, 3) := by decide +kernel
theorem dX12_isHandler_34 : decode cX12_isHandler 34 = .ok (.if_icmp .gt 29, 3) := by decide +kernel
theorem dX12_isHandler_37 : decode cX12_isHandler 37 = .ok (.aload_n 0, 1) := by decide +kernel
theorem dX12_isHandler_38 : decode cX12_isHandler 38 = .ok (.getfield 57, 3) := by decide +kernel
theorem dX12_isHandler_41 : decode cX12_isHandler 41 = .ok (.iload_n 1, 1) := by decide +kernel
theorem dX12_isHandler_42 : decode cX12_isHandler 42 = .ok (.iaload, 1) := by decide +kernel
theorem dX12_isHandler_43 : decode cX12_isHandler 43 = .ok (.ifCond .lt 20, 3) := by decide +kernel
theorem dX12_isHandler_46 : decode cX12_isHandler 46 = .ok (.aload_n 0, 1) := by decide +kernel
theorem dX12_isHandler_47 : decode cX12_isHandler 47 = .ok (.getfield 57, 3) := by decide +kernel
theorem dX12_isHandler_50 : decode cX12_isHandler 50 = .ok (.iload_n 1, 1) := by decide +kernel
theorem dX12_isHandler_51 : decode cX12_isHandler 51 = .ok (.iaload, 1) := by decide +kernel
theorem dX12_isHandler_52 : decode cX12_isHandler 52 = .ok (.aload_n 0, 1) := by decide +kernel
theorem dX12_isHandler_53 : decode cX12_isHandler 53 = .ok (.getfield 165, 3) := by decide +kernel
theorem dX12_isHandler_56 : decode cX12_isHandler 56 = .ok (.if_icmp .ge 7, 3) := by decide +kernel
theorem dX12_isHandler_59 : decode cX12_isHandler 59 = .ok (.iconst 1, 1) := by decide +kernel
theorem dX12_isHandler_60 : decode cX12_isHandler 60 = .ok (.goto 4, 3) := by decide +kernel
theorem dX12_isHandler_63 : decode cX12_isHandler 63 = .ok (.iconst 0, 1) := by decide +kernel
theorem dX12_isHandler_64 : decode cX12_isHandler 64 = .ok (.istore_n 2, 1) := by decide +kernel
theorem dX12_isHandler_65 : decode cX12_isHandler 65 = .ok (.iconst 0, 1) := by decide +kernel
theorem dX12_isHandler_66 : decode cX12_isHandler 66 = .ok (.istore_n 3, 1) := by decide +kernel
theorem dX12_isHandler_67 : decode cX12_isHandler 67 = .ok (.iload_n 3, 1) := by decide +kernel
theorem dX12_isHandler_68 : decode cX12_isHandler 68 = .ok (.iload_n 1, 1) := by decide +kernel
theorem dX12_isHandler_69 : decode cX12_isHandler 69 = .ok (.if_icmp .ge 77, 3) := by decide +kernel
theorem dX12_isHandler_72 : decode cX12_isHandler 72 = .ok (.iload_n 2, 1) := by decide +kernel
theorem dX12_isHandler_73 : decode cX12_isHandler 73 = .ok (.aload_n 0, 1) := by decide +kernel
theorem dX12_isHandler_74 : decode cX12_isHandler 74 = .ok (.getfield 54, 3) := by decide +kernel
theorem dX12_isHandler_77 : decode cX12_isHandler 77 = .ok (.iload_n 1, 1) := by decide +kernel
theorem dX12_isHandler_78 : decode cX12_isHandler 78 = .ok (.iaload, 1) := by decide +kernel
theorem dX12_isHandler_79 : decode cX12_isHandler 79 = .ok (.aload_n 0, 1) := by decide +kernel
theorem dX12_isHandler_80 : decode cX12_isHandler 80 = .ok (.getfield 51, 3) := by decide +kernel
theorem dX12_isHandler_83 : decode cX12_isHandler 83 = .ok (.iload_n 3, 1) := by decide +kernel
theorem dX12_isHandler_84 : decode cX12_isHandler 84 = .ok (.iaload, 1) := by decide +kernel
theorem dX12_isHandler_85 : decode cX12_isHandler 85 = .ok (.if_icmp .le 48, 3) := by decide +kernel
theorem dX12_isHandler_88 : decode cX12_isHandler 88 = .ok (.aload_n 0, 1) := by decide +kernel
theorem dX12_isHandler_89 : decode cX12_isHandler 89 = .ok (.getfield 54, 3) := by decide +kernel
theorem dX12_isHandler_92 : decode cX12_isHandler 92 = .ok (.iload_n 3, 1) := by decide +kernel
theorem dX12_isHandler_93 : decode cX12_isHandler 93 = .ok (.iaload, 1) := by decide +kernel
theorem dX12_isHandler_94 : decode cX12_isHandler 94 = .ok (.aload_n 0, 1) := by decide +kernel
theorem dX12_isHandler_95 : decode cX12_isHandler 95 = .ok (.getfield 51, 3) := by decide +kernel
theorem dX12_isHandler_98 : decode cX12_isHandler 98 = .ok (.iload_n 1, 1) := by decide +kernel
theorem dX12_isHandler_99 : decode cX12_isHandler 99 = .ok (.iaload, 1) := by decide +kernel
theorem dX12_isHandler_100 : decode cX12_isHandler 100 = .ok (.if_icmp .le 33, 3) := by decide +kernel
theorem dX12_isHandler_103 : decode cX12_isHandler 103 = .ok (.aload_n 0, 1) := by decide +kernel
theorem dX12_isHandler_104 : decode cX12_isHandler 104 = .ok (.getfield 51, 3) := by decide +kernel
theorem dX12_isHandler_107 : decode cX12_isHandler 107 = .ok (.iload_n 1, 1) := by decide +kernel
theorem dX12_isHandler_108 : decode cX12_isHandler 108 = .ok (.iaload, 1) := by decide +kernel
theorem dX12_isHandler_109 : decode cX12_isHandler 109 = .ok (.aload_n 0, 1) := by decide +kernel
theorem dX12_isHandler_110 : decode cX12_isHandler 110 = .ok (.getfield 51, 3) := by decide +kernel
theorem dX12_isHandler_113 : decode cX12_isHandler 113 = .ok (.iload_n 3, 1) := by decide +kernel
theorem dX12_isHandler_114 : decode cX12_isHandler 114 = .ok (.iaload, 1) := by decide +kernel
theorem dX12_isHandler_115 : decode cX12_isHandler 115 = .ok (.if_icmp .gt 22, 3) := by decide +kernel
theorem dX12_isHandler_118 : decode cX12_isHandler 118 = .ok (.aload_n 0, 1) := by decide +kernel
theorem dX12_isHandler_119 : decode cX12_isHandler 119 = .ok (.getfield 54, 3) := by decide +kernel
theorem dX12_isHandler_122 : decode cX12_isHandler 122 = .ok (.iload_n 3, 1) := by decide +kernel
theorem dX12_isHandler_123 : decode cX12_isHandler 123 = .ok (.iaload, 1) := by decide +kernel
theorem dX12_isHandler_124 : decode cX12_isHandler 124 = .ok (.aload_n 0, 1) := by decide +kernel
theorem dX12_isHandler_125 : decode cX12_isHandler 125 = .ok (.getfield 54, 3) := by decide +kernel
theorem dX12_isHandler_128 : decode cX12_isHandler 128 = .ok (.iload_n 1, 1) := by decide +kernel
theorem dX12_isHandler_129 : decode cX12_isHandler 129 = .ok (.iaload, 1) := by decide +kernel
theorem dX12_isHandler_130 : decode cX12_isHandler 130 = .ok (.if_icmp .gt 7, 3) := by decide +kernel
theorem dX12_isHandler_133 : decode cX12_isHandler 133 = .ok (.iconst 1, 1) := by decide +kernel
theorem dX12_isHandler_134 : decode cX12_isHandler 134 = .ok (.goto 4, 3) := by decide +kernel
theorem dX12_isHandler_137 : decode cX12_isHandler 137 = .ok (.iconst 0, 1) := by decide +kernel
theorem dX12_isHandler_138 : decode cX12_isHandler 138 = .ok (.iand, 1) := by decide +kernel
theorem dX12_isHandler_139 : decode cX12_isHandler 139 = .ok (.istore_n 2, 1) := by decide +kernel
theorem dX12_isHandler_140 : decode cX12_isHandler 140 = .ok (.iinc 3 1, 3) := by decide +kernel
theorem dX12_isHandler_143 : decode cX12_isHandler 143 = .ok (.goto (-76), 3) := by decide +kernel
theorem dX12_isHandler_146 : decode cX12_isHandler 146 = .ok (.iload_n 2, 1) := by decide +kernel
theorem dX12_isHandler_147 : decode cX12_isHandler 147 = .ok (.ireturn, 1) := by decide +kernel
theorem dX12_examine_0 : decode cX12_examine 0 = .ok (.aload_n 0, 1) := by decide +kernel
theorem dX12_examine_1 : decode cX12_examine 1 = .ok (.iconst 0, 1) := by decide +kernel
theorem dX12_examine_2 : decode cX12_examine 2 = .ok (.putfield 202, 3) := by decide +kernel
theorem dX12_examine_5 : decode cX12_examine 5 = .ok (.aload_n 0, 1) := by decide +kernel
theorem dX12_examine_6 : decode cX12_examine 6 = .ok (.iconst (-1), 1) := by decide +kernel
theorem dX12_examine_7 : decode cX12_examine 7 = .ok (.putfield 78, 3) := by decide +kernel
theorem dX12_examine_10 : decode cX12_examine 10 = .ok (.aload_n 0, 1) := by decide +kernel
theorem dX12_examine_11 : decode cX12_examine 11 = .ok (.iconst 0, 1) := by decide +kernel
theorem dX12_examine_12 : decode cX12_examine 12 = .ok (.putfield 205, 3) := by decide +kernel
theorem dX12_examine_15 : decode cX12_examine 15 = .ok (.aload_n 0, 1) := by decide +kernel
theorem dX12_examine_16 : decode cX12_examine 16 = .ok (.getfield 165, 3) := by decide +kernel
theorem dX12_examine_19 : decode cX12_examine 19 = .ok (.ifCond .ne 10, 3) := by decide +kernel
theorem dX12_examine_22 : decode cX12_examine 22 = .ok (.aload_n 0, 1) := by decide +kernel
theorem dX12_examine_23 : decode cX12_examine 23 = .ok (.bipush 7, 2) := by decide +kernel
theorem dX12_examine_25 : decode cX12_examine 25 = .ok (.iconst 0, 1) := by decide +kernel
theorem dX12_examine_26 : decode cX12_examine 26 = .ok (.invokevirtual 208, 3) := by decide +kernel
theorem dX12_examine_29 : decode cX12_examine 29 = .ok (.iconst 0, 1) := by decide +kernel
theorem dX12_examine_30 : decode cX12_examine 30 = .ok (.istore_n 1, 1) := by decide +kernel
theorem dX12_examine_31 : decode cX12_examine 31 = .ok (.iload_n 1, 1) := by decide +kernel
theorem dX12_examine_32 : decode cX12_examine 32 = .ok (.aload_n 0, 1) := by decide +kernel
theorem dX12_examine_33 : decode cX12_examine 33 = .ok (.getfield 165, 3) := by decide +kernel
theorem dX12_examine_36 : decode cX12_examine 36 = .ok (.if_icmp .ge 34, 3) := by decide +kernel
theorem dX12_examine_39 : decode cX12_examine 39 = .ok (.aload_n 0, 1) := by decide +kernel
theorem dX12_examine_40 : decode cX12_examine 40 = .ok (.aload_n 0, 1) := by decide +kernel
theorem dX12_examine_41 : decode cX12_examine 41 = .ok (.getfield 45, 3) := by decide +kernel
theorem dX12_examine_44 : decode cX12_examine 44 = .ok (.iload_n 1, 1) := by decide +kernel
theorem dX12_examine_45 : decode cX12_examine 45 = .ok (.iaload, 1) := by decide +kernel
theorem dX12_examine_46 : decode cX12_examine 46 = .ok (.aload_n 0, 1) := by decide +kernel
theorem dX12_examine_47 : decode cX12_examine 47 = .ok (.getfield 48, 3) := by decide +kernel
theorem dX12_examine_50 : decode cX12_examine 50 = .ok (.iload_n 1, 1) := by decide +kernel
theorem dX12_examine_51 : decode cX12_examine 51 = .ok (.iaload, 1) := by decide +kernel
theorem dX12_examine_52 : decode cX12_examine 52 = .ok (.invokevirtual 212, 3) := by decide +kernel
theorem dX12_examine_55 : decode cX12_examine 55 = .ok (.ifCond .ne 9, 3) := by decide +kernel
theorem dX12_examine_58 : decode cX12_examine 58 = .ok (.aload_n 0, 1) := by decide +kernel
theorem dX12_examine_59 : decode cX12_examine 59 = .ok (.iconst 1, 1) := by decide +kernel
theorem dX12_examine_60 : decode cX12_examine 60 = .ok (.iload_n 1, 1) := by decide +kernel
theorem dX12_examine_61 : decode cX12_examine 61 = .ok (.invokevirtual 208, 3) := by decide +kernel
theorem dX12_examine_64 : decode cX12_examine 64 = .ok (.iinc 1 1, 3) := by decide +kernel
theorem dX12_examine_67 : decode cX12_examine 67 = .ok (.goto (-36), 3) := by decide +kernel
theorem dX12_examine_70 : decode cX12_examine 70 = .ok (.iconst 0, 1) := by decide +kernel
theorem dX12_examine_71 : decode cX12_examine 71 = .ok (.istore_n 1, 1) := by decide +kernel
theorem dX12_examine_72 : decode cX12_examine 72 = .ok (.iload_n 1, 1) := by decide +kernel
theorem dX12_examine_73 : decode cX12_examine 73 = .ok (.aload_n 0, 1) := by decide +kernel
theorem dX12_examine_74 : decode cX12_examine 74 = .ok (.getfield 168, 3) := by decide +kernel
theorem dX12_examine_77 : decode cX12_examine 77 = .ok (.if_icmp .ge 23, 3) := by decide +kernel
theorem dX12_examine_80 : decode cX12_examine 80 = .ok (.aload_n 0, 1) := by decide +kernel
theorem dX12_examine_81 : decode cX12_examine 81 = .ok (.iload_n 1, 1) := by decide +kernel
theorem dX12_examine_82 : decode cX12_examine 82 = .ok (.invokevirtual 215, 3) := by decide +kernel
theorem dX12_examine_85 : decode cX12_examine 85 = .ok (.ifCond .ne 9, 3) := by decide +kernel
theorem dX12_examine_88 : decode cX12_examine 88 = .ok (.aload_n 0, 1) := by decide +kernel
theorem dX12_examine_89 : decode cX12_examine 89 = .ok (.iconst 2, 1) := by decide +kernel
theorem dX12_examine_90 : decode cX12_examine 90 = .ok (.iload_n 1, 1) := by decide +kernel
theorem dX12_examine_91 : decode cX12_examine 91 = .ok (.invokevirtual 208, 3) := by decide +kernel
theorem dX12_examine_94 : decode cX12_examine 94 = .ok (.iinc 1 1, 3) := by decide +kernel
theorem dX12_examine_97 : decode cX12_examine 97 = .ok (.goto (-25), 3) := by decide +kernel
theorem dX12_examine_100 : decode cX12_examine 100 = .ok (.aload_n 0, 1) := by decide +kernel
theorem dX12_examine_101 : decode cX12_examine 101 = .ok (.aload_n 0, 1) := by decide +kernel
theorem dX12_examine_102 : decode cX12_examine 102 = .ok (.getfield 156, 3) := by decide +kernel
theorem dX12_examine_105 : decode cX12_examine 105 = .ok (.invokevirtual 174, 3) := by decide +kernel
theorem dX12_examine_108 : decode cX12_examine 108 = .ok (.aload_n 0, 1) := by decide +kernel
theorem dX12_examine_109 : decode cX12_examine 109 = .ok (.getfield 162, 3) := by decide +kernel
theorem dX12_examine_112 : decode cX12_examine 112 = .ok (.if_icmp .le 10, 3) := by decide +kernel
theorem dX12_examine_115 : decode cX12_examine 115 = .ok (.aload_n 0, 1) := by decide +kernel
theorem dX12_examine_116 : decode cX12_examine 116 = .ok (.bipush 11, 2) := by decide +kernel
theorem dX12_examine_118 : decode cX12_examine 118 = .ok (.iconst 0, 1) := by decide +kernel
theorem dX12_examine_119 : decode cX12_examine 119 = .ok (.invokevirtual 208, 3) := by decide +kernel
theorem dX12_examine_122 : decode cX12_examine 122 = .ok (.return_, 1) := by decide +kernel
theorem dX12_setFirst_0 : decode cX12_setFirst 0 = .ok (.iconst 0, 1) := by decide +kernel
theorem dX12_setFirst_1 : decode cX12_setFirst 1 = .ok (.istore_n 1, 1) := by decide +kernel
theorem dX12_setFirst_2 : decode cX12_setFirst 2 = .ok (.iload_n 1, 1) := by decide +kernel
theorem dX12_setFirst_3 : decode cX12_setFirst 3 = .ok (.bipush 24, 2) := by decide +kernel
theorem dX12_setFirst_5 : decode cX12_setFirst 5 = .ok (.if_icmp .ge 17, 3) := by decide +kernel
theorem dX12_setFirst_8 : decode cX12_setFirst 8 = .ok (.aload_n 0, 1) := by decide +kernel
theorem dX12_setFirst_9 : decode cX12_setFirst 9 = .ok (.getfield 81, 3) := by decide +kernel
theorem dX12_setFirst_12 : decode cX12_setFirst 12 = .ok (.iload_n 1, 1) := by decide +kernel
theorem dX12_setFirst_13 : decode cX12_setFirst 13 = .ok (.bipush (-2), 2) := by decide +kernel
theorem dX12_setFirst_15 : decode cX12_setFirst 15 = .ok (.iastore, 1) := by decide +kernel
theorem dX12_setFirst_16 : decode cX12_setFirst 16 = .ok (.iinc 1 1, 3) := by decide +kernel
theorem dX12_setFirst_19 : decode cX12_setFirst 19 = .ok (.goto (-17), 3) := by decide +kernel
theorem dX12_setFirst_22 : decode cX12_setFirst 22 = .ok (.aload_n 0, 1) := by decide +kernel
theorem dX12_setFirst_23 : decode cX12_setFirst 23 = .ok (.getfield 81, 3) := by decide +kernel
theorem dX12_setFirst_26 : decode cX12_setFirst 26 = .ok (.bipush 24, 2) := by decide +kernel
theorem dX12_setFirst_28 : decode cX12_setFirst 28 = .ok (.iconst 0, 1) := by decide +kernel
theorem dX12_setFirst_29 : decode cX12_setFirst 29 = .ok (.iastore, 1) := by decide +kernel
theorem dX12_setFirst_30 : decode cX12_setFirst 30 = .ok (.aload_n 0, 1) := by decide +kernel
theorem dX12_setFirst_31 : decode cX12_setFirst 31 = .ok (.getfield 81, 3) := by decide +kernel
theorem dX12_setFirst_34 : decode cX12_setFirst 34 = .ok (.bipush 25, 2) := by decide +kernel
theorem dX12_setFirst_36 : decode cX12_setFirst 36 = .ok (.iconst 0, 1) := by decide +kernel
theorem dX12_setFirst_37 : decode cX12_setFirst 37 = .ok (.iastore, 1) := by decide +kernel
theorem dX12_setFirst_38 : decode cX12_setFirst 38 = .ok (.iconst 0, 1) := by decide +kernel
theorem dX12_setFirst_39 : decode cX12_setFirst 39 = .ok (.istore_n 1, 1) := by decide +kernel
theorem dX12_setFirst_40 : decode cX12_setFirst 40 = .ok (.aload_n 0, 1) := by decide +kernel
theorem dX12_setFirst_41 : decode cX12_setFirst 41 = .ok (.getfield 30, 3) := by decide +kernel
theorem dX12_setFirst_44 : decode cX12_setFirst 44 = .ok (.aload_n 0, 1) := by decide +kernel
theorem dX12_setFirst_45 : decode cX12_setFirst 45 = .ok (.getfield 156, 3) := by decide +kernel
theorem dX12_setFirst_48 : decode cX12_setFirst 48 = .ok (.iaload, 1) := by decide +kernel
theorem dX12_setFirst_49 : decode cX12_setFirst 49 = .ok (.iconst 1, 1) := by decide +kernel
theorem dX12_setFirst_50 : decode cX12_setFirst 50 = .ok (.if_icmp .eq 80, 3) := by decide +kernel
theorem dX12_setFirst_53 : decode cX12_setFirst 53 = .ok (.aload_n 0, 1) := by decide +kernel
theorem dX12_setFirst_54 : decode cX12_setFirst 54 = .ok (.getfield 30, 3) := by decide +kernel
theorem dX12_setFirst_57 : decode cX12_setFirst 57 = .ok (.aload_n 0, 1) := by decide +kernel
theorem dX12_setFirst_58 : decode cX12_setFirst 58 = .ok (.getfield 156, 3) := by decide +kernel
theorem dX12_setFirst_61 : decode cX12_setFirst 61 = .ok (.iaload, 1) := by decide +kernel
theorem dX12_setFirst_62 : decode cX12_setFirst 62 = .ok (.iconst 2, 1) := by decide +kernel
theorem dX12_setFirst_63 : decode cX12_setFirst 63 = .ok (.if_icmp .ne 20, 3) := by decide +kernel
theorem dX12_setFirst_66 : decode cX12_setFirst 66 = .ok (.aload_n 0, 1) := by decide +kernel
theorem dX12_setFirst_67 : decode cX12_setFirst 67 = .ok (.getfield 27, 3) := by decide +kernel
theorem dX12_setFirst_70 : decode cX12_setFirst 70 = .ok (.aload_n 0, 1) := by decide +kernel
theorem dX12_setFirst_71 : decode cX12_setFirst 71 = .ok (.getfield 156, 3) := by decide +kernel
theorem dX12_setFirst_74 : decode cX12_setFirst 74 = .ok (.iaload, 1) := by decide +kernel
theorem dX12_setFirst_75 : decode cX12_setFirst 75 = .ok (.iconst 2, 1) := by decide +kernel
theorem dX12_setFirst_76 : decode cX12_setFirst 76 = .ok (.if_icmp .eq 7, 3) := by decide +kernel
theorem dX12_setFirst_79 : decode cX12_setFirst 79 = .ok (.iconst 1, 1) := by decide +kernel
theorem dX12_setFirst_80 : decode cX12_setFirst 80 = .ok (.goto 4, 3) := by decide +kernel
theorem dX12_setFirst_83 : decode cX12_setFirst 83 = .ok (.iconst 0, 1) := by decide +kernel
theorem dX12_setFirst_84 : decode cX12_setFirst 84 = .ok (.istore_n 2, 1) := by decide +kernel
theorem dX12_setFirst_85 : decode cX12_setFirst 85 = .ok (.aload_n 0, 1) := by decide +kernel
theorem dX12_setFirst_86 : decode cX12_setFirst 86 = .ok (.getfield 81, 3) := by decide +kernel
theorem dX12_setFirst_89 : decode cX12_setFirst 89 = .ok (.iconst 0, 1) := by decide +kernel
theorem dX12_setFirst_90 : decode cX12_setFirst 90 = .ok (.iload_n 2, 1) := by decide +kernel
theorem dX12_setFirst_91 : decode cX12_setFirst 91 = .ok (.ifCond .eq 8, 3) := by decide +kernel
theorem dX12_setFirst_94 : decode cX12_setFirst 94 = .ok (.bipush (-4), 2) := by decide +kernel
theorem dX12_setFirst_96 : decode cX12_setFirst 96 = .ok (.goto 15, 3) := by decide +kernel
theorem dX12_setFirst_99 : decode cX12_setFirst 99 = .ok (.bipush 8, 2) := by decide +kernel
theorem dX12_setFirst_101 : decode cX12_setFirst 101 = .ok (.aload_n 0, 1) := by decide +kernel
theorem dX12_setFirst_102 : decode cX12_setFirst 102 = .ok (.getfield 27, 3) := by decide +kernel
theorem dX12_setFirst_105 : decode cX12_setFirst 105 = .ok (.aload_n 0, 1) := by decide +kernel
theorem dX12_setFirst_106 : decode cX12_setFirst 106 = .ok (.getfield 156, 3) := by decide +kernel
theorem dX12_setFirst_109 : decode cX12_setFirst 109 = .ok (.iaload, 1) := by decide +kernel
theorem dX12_setFirst_110 : decode cX12_setFirst 110 = .ok (.imul, 1) := by decide +kernel
theorem dX12_setFirst_111 : decode cX12_setFirst 111 = .ok (.iastore, 1) := by decide +kernel
theorem dX12_setFirst_112 : decode cX12_setFirst 112 = .ok (.aload_n 0, 1) := by decide +kernel
theorem dX12_setFirst_113 : decode cX12_setFirst 113 = .ok (.getfield 81, 3) := by decide +kernel
theorem dX12_setFirst_116 : decode cX12_setFirst 116 = .ok (.bipush 25, 2) := by decide +kernel
theorem dX12_setFirst_118 : decode cX12_setFirst 118 = .ok (.iload_n 2, 1) := by decide +kernel
theorem dX12_setFirst_119 : decode cX12_setFirst 119 = .ok (.ifCond .eq 7, 3) := by decide +kernel
theorem dX12_setFirst_122 : decode cX12_setFirst 122 = .ok (.iconst 1, 1) := by decide +kernel
theorem dX12_setFirst_123 : decode cX12_setFirst 123 = .ok (.goto 4, 3) := by decide +kernel
theorem dX12_setFirst_126 : decode cX12_setFirst 126 = .ok (.iconst 0, 1) := by decide +kernel
theorem dX12_setFirst_127 : decode cX12_setFirst 127 = .ok (.iastore, 1) := by decide +kernel
theorem dX12_setFirst_128 : decode cX12_setFirst 128 = .ok (.iconst 1, 1) := by decide +kernel
theorem dX12_setFirst_129 : decode cX12_setFirst 129 = .ok (.istore_n 1, 1) := by decide +kernel
theorem dX12_setFirst_130 : decode cX12_setFirst 130 = .ok (.iconst 0, 1) := by decide +kernel
theorem dX12_setFirst_131 : decode cX12_setFirst 131 = .ok (.istore_n 2, 1) := by decide +kernel
theorem dX12_setFirst_132 : decode cX12_setFirst 132 = .ok (.iload_n 2, 1) := by decide +kernel
theorem dX12_setFirst_133 : decode cX12_setFirst 133 = .ok (.aload_n 0, 1) := by decide +kernel
theorem dX12_setFirst_134 : decode cX12_setFirst 134 = .ok (.getfield 36, 3) := by decide +kernel
theorem dX12_setFirst_137 : decode cX12_setFirst 137 = .ok (.aload_n 0, 1) := by decide +kernel
theorem dX12_setFirst_138 : decode cX12_setFirst 138 = .ok (.getfield 156, 3) := by decide +kernel
theorem dX12_setFirst_141 : decode cX12_setFirst 141 = .ok (.iaload, 1) := by decide +kernel
theorem dX12_setFirst_142 : decode cX12_setFirst 142 = .ok (.if_icmp .ge 54, 3) := by decide +kernel
theorem dX12_setFirst_145 : decode cX12_setFirst 145 = .ok (.aload_n 0, 1) := by decide +kernel
theorem dX12_setFirst_146 : decode cX12_setFirst 146 = .ok (.getfield 39, 3) := by decide +kernel
theorem dX12_setFirst_149 : decode cX12_setFirst 149 = .ok (.bipush 6, 2) := by decide +kernel
theorem dX12_setFirst_151 : decode cX12_setFirst 151 = .ok (.aload_n 0, 1) := by decide +kernel
theorem dX12_setFirst_152 : decode cX12_setFirst 152 = .ok (.getfield 156, 3) := by decide +kernel
theorem dX12_setFirst_155 : decode cX12_setFirst 155 = .ok (.imul, 1) := by decide +kernel
theorem dX12_setFirst_156 : decode cX12_setFirst 156 = .ok (.iload_n 2, 1) := by decide +kernel
theorem dX12_setFirst_157 : decode cX12_setFirst 157 = .ok (.iadd, 1) := by decide +kernel
theorem dX12_setFirst_158 : decode cX12_setFirst 158 = .ok (.iaload, 1) := by decide +kernel
theorem dX12_setFirst_159 : decode cX12_setFirst 159 = .ok (.istore_n 3, 1) := by decide +kernel
theorem dX12_setFirst_160 : decode cX12_setFirst 160 = .ok (.aload_n 0, 1) := by decide +kernel
theorem dX12_setFirst_161 : decode cX12_setFirst 161 = .ok (.getfield 81, 3) := by decide +kernel
theorem dX12_setFirst_164 : decode cX12_setFirst 164 = .ok (.iload_n 1, 1) := by decide +kernel
theorem dX12_setFirst_165 : decode cX12_setFirst 165 = .ok (.iload_n 3, 1) := by decide +kernel
theorem dX12_setFirst_166 : decode cX12_setFirst 166 = .ok (.iastore, 1) := by decide +kernel
theorem dX12_setFirst_167 : decode cX12_setFirst 167 = .ok (.iload_n 3, 1) := by decide +kernel
theorem dX12_setFirst_168 : decode cX12_setFirst 168 = .ok (.bipush 8, 2) := by decide +kernel
theorem dX12_setFirst_170 : decode cX12_setFirst 170 = .ok (.if_icmp .ne 13, 3) := by decide +kernel
theorem dX12_setFirst_173 : decode cX12_setFirst 173 = .ok (.aload_n 0, 1) := by decide +kernel
theorem dX12_setFirst_174 : decode cX12_setFirst 174 = .ok (.getfield 81, 3) := by decide +kernel
theorem dX12_setFirst_177 : decode cX12_setFirst 177 = .ok (.iload_n 1, 1) := by decide +kernel
theorem dX12_setFirst_178 : decode cX12_setFirst 178 = .ok (.iconst 1, 1) := by decide +kernel
theorem dX12_setFirst_179 : decode cX12_setFirst 179 = .ok (.iadd, 1) := by decide +kernel
theorem dX12_setFirst_180 : decode cX12_setFirst 180 = .ok (.bipush (-3), 2) := by decide +kernel
theorem dX12_setFirst_182 : decode cX12_setFirst 182 = .ok (.iastore, 1) := by decide +kernel
theorem dX12_setFirst_183 : decode cX12_setFirst 183 = .ok (.iload_n 1, 1) := by decide +kernel
theorem dX12_setFirst_184 : decode cX12_setFirst 184 = .ok (.iload_n 3, 1) := by decide +kernel
theorem dX12_setFirst_185 : decode cX12_setFirst 185 = .ok (.invokestatic 142, 3) := by decide +kernel
theorem dX12_setFirst_188 : decode cX12_setFirst 188 = .ok (.iadd, 1) := by decide +kernel
theorem dX12_setFirst_189 : decode cX12_setFirst 189 = .ok (.istore_n 1, 1) := by decide +kernel
theorem dX12_setFirst_190 : decode cX12_setFirst 190 = .ok (.iinc 2 1, 3) := by decide +kernel
theorem dX12_setFirst_193 : decode cX12_setFirst 193 = .ok (.goto (-61), 3) := by decide +kernel
theorem dX12_setFirst_196 : decode cX12_setFirst 196 = .ok (.return_, 1) := by decide +kernel
theorem dX12_top_0 : decode cX12_top 0 = .ok (.aload_n 0, 1) := by decide +kernel
theorem dX12_top_1 : decode cX12_top 1 = .ok (.getfield 81, 3) := by decide +kernel
theorem dX12_top_4 : decode cX12_top 4 = .ok (.bipush 12, 2) := by decide +kernel
theorem dX12_top_6 : decode cX12_top 6 = .ok (.aload_n 0, 1) := by decide +kernel
theorem dX12_top_7 : decode cX12_top 7 = .ok (.getfield 81, 3) := by decide +kernel
theorem dX12_top_10 : decode cX12_top 10 = .ok (.bipush 24, 2) := by decide +kernel
theorem dX12_top_12 : decode cX12_top 12 = .ok (.iaload, 1) := by decide +kernel
theorem dX12_top_13 : decode cX12_top 13 = .ok (.iadd, 1) := by decide +kernel
theorem dX12_top_14 : decode cX12_top 14 = .ok (.iconst 1, 1) := by decide +kernel
theorem dX12_top_15 : decode cX12_top 15 = .ok (.isub, 1) := by decide +kernel
theorem dX12_top_16 : decode cX12_top 16 = .ok (.iload_n 1, 1) := by decide +kernel
theorem dX12_top_17 : decode cX12_top 17 = .ok (.isub, 1) := by decide +kernel
theorem dX12_top_18 : decode cX12_top 18 = .ok (.iaload, 1) := by decide +kernel
theorem dX12_top_19 : decode cX12_top 19 = .ok (.ireturn, 1) := by decide +kernel
theorem dX12_has_0 : decode cX12_has 0 = .ok (.aload_n 0, 1) := by decide +kernel
theorem dX12_has_1 : decode cX12_has 1 = .ok (.invokevirtual 218, 3) := by decide +kernel
theorem dX12_has_4 : decode cX12_has 4 = .ok (.ifCond .eq 23, 3) := by decide +kernel
theorem dX12_has_7 : decode cX12_has 7 = .ok (.aload_n 0, 1) := by decide +kernel
theorem dX12_has_8 : decode cX12_has 8 = .ok (.getfield 81, 3) := by decide +kernel
theorem dX12_has_11 : decode cX12_has 11 = .ok (.bipush 24, 2) := by decide +kernel
theorem dX12_has_13 : decode cX12_has 13 = .ok (.iaload, 1) := by decide +kernel
theorem dX12_has_14 : decode cX12_has 14 = .ok (.iload_n 1, 1) := by decide +kernel
theorem dX12_has_15 : decode cX12_has 15 = .ok (.if_icmp .ge 12, 3) := by decide +kernel
theorem dX12_has_18 : decode cX12_has 18 = .ok (.aload_n 0, 1) := by decide +kernel
theorem dX12_has_19 : decode cX12_has 19 = .ok (.iconst 3, 1) := by decide +kernel
theorem dX12_has_20 : decode cX12_has 20 = .ok (.aload_n 0, 1) := by decide +kernel
theorem dX12_has_21 : decode cX12_has 21 = .ok (.getfield 222, 3) := by decide +kernel
theorem dX12_has_24 : decode cX12_has 24 = .ok (.invokevirtual 208, 3) := by decide +kernel
theorem dX12_has_27 : decode cX12_has 27 = .ok (.aload_n 0, 1) := by decide +kernel
theorem dX12_has_28 : decode cX12_has 28 = .ok (.invokevirtual 218, 3) := by decide +kernel
theorem dX12_has_31 : decode cX12_has 31 = .ok (.ireturn, 1) := by decide +kernel
theorem dX12_require_0 : decode cX12_require 0 = .ok (.iload_n 1, 1) := by decide +kernel
theorem dX12_require_1 : decode cX12_require 1 = .ok (.ifCond .ne 12, 3) := by decide +kernel
theorem dX12_require_4 : decode cX12_require 4 = .ok (.aload_n 0, 1) := by decide +kernel
theorem dX12_require_5 : decode cX12_require 5 = .ok (.iconst 4, 1) := by decide +kernel
theorem dX12_require_6 : decode cX12_require 6 = .ok (.aload_n 0, 1) := by decide +kernel
theorem dX12_require_7 : decode cX12_require 7 = .ok (.getfield 222, 3) := by decide +kernel
theorem dX12_require_10 : decode cX12_require 10 = .ok (.invokevirtual 208, 3) := by decide +kernel
theorem dX12_require_13 : decode cX12_require 13 = .ok (.return_, 1) := by decide +kernel
theorem dX12_drop_0 : decode cX12_drop 0 = .ok (.aload_n 0, 1) := by decide +kernel
theorem dX12_drop_1 : decode cX12_drop 1 = .ok (.invokevirtual 218, 3) := by decide +kernel
theorem dX12_drop_4 : decode cX12_drop 4 = .ok (.ifCond .ne 6, 3) := by decide +kernel
theorem dX12_drop_7 : decode cX12_drop 7 = .ok (.bipush (-2), 2) := by decide +kernel
theorem dX12_drop_9 : decode cX12_drop 9 = .ok (.ireturn, 1) := by decide +kernel
theorem dX12_drop_10 : decode cX12_drop 10 = .ok (.aload_n 0, 1) := by decide +kernel
theorem dX12_drop_11 : decode cX12_drop 11 = .ok (.getfield 81, 3) := by decide +kernel
theorem dX12_drop_14 : decode cX12_drop 14 = .ok (.bipush 24, 2) := by decide +kernel
theorem dX12_drop_16 : decode cX12_drop 16 = .ok (.dup2, 1) := by decide +kernel
theorem dX12_drop_17 : decode cX12_drop 17 = .ok (.iaload, 1) := by decide +kernel
theorem dX12_drop_18 : decode cX12_drop 18 = .ok (.iload_n 1, 1) := by decide +kernel
theorem dX12_drop_19 : decode cX12_drop 19 = .ok (.isub, 1) := by decide +kernel
theorem dX12_drop_20 : decode cX12_drop 20 = .ok (.iastore, 1) := by decide +kernel
theorem dX12_drop_21 : decode cX12_drop 21 = .ok (.aload_n 0, 1) := by decide +kernel
theorem dX12_drop_22 : decode cX12_drop 22 = .ok (.getfield 81, 3) := by decide +kernel
theorem dX12_drop_25 : decode cX12_drop 25 = .ok (.bipush 12, 2) := by decide +kernel
theorem dX12_drop_27 : decode cX12_drop 27 = .ok (.aload_n 0, 1) := by decide +kernel
theorem dX12_drop_28 : decode cX12_drop 28 = .ok (.getfield 81, 3) := by decide +kernel
theorem dX12_drop_31 : decode cX12_drop 31 = .ok (.bipush 24, 2) := by decide +kernel
theorem dX12_drop_33 : decode cX12_drop 33 = .ok (.iaload, 1) := by decide +kernel
theorem dX12_drop_34 : decode cX12_drop 34 = .ok (.iadd, 1) := by decide +kernel
theorem dX12_drop_35 : decode cX12_drop 35 = .ok (.iaload, 1) := by decide +kernel
theorem dX12_drop_36 : decode cX12_drop 36 = .ok (.istore_n 2, 1) := by decide +kernel
theorem dX12_drop_37 : decode cX12_drop 37 = .ok (.iconst 0, 1) := by decide +kernel
theorem dX12_drop_38 : decode cX12_drop 38 = .ok (.istore_n 3, 1) := by decide +kernel
theorem dX12_drop_39 : decode cX12_drop 39 = .ok (.iload_n 3, 1) := by decide +kernel
theorem dX12_drop_40 : decode cX12_drop 40 = .ok (.iload_n 1, 1) := by decide +kernel
theorem dX12_drop_41 : decode cX12_drop 41 = .ok (.if_icmp .ge 28, 3) := by decide +kernel
theorem dX12_drop_44 : decode cX12_drop 44 = .ok (.aload_n 0, 1) := by decide +kernel
theorem dX12_drop_45 : decode cX12_drop 45 = .ok (.getfield 81, 3) := by decide +kernel
theorem dX12_drop_48 : decode cX12_drop 48 = .ok (.bipush 12, 2) := by decide +kernel
theorem dX12_drop_50 : decode cX12_drop 50 = .ok (.aload_n 0, 1) := by decide +kernel
theorem dX12_drop_51 : decode cX12_drop 51 = .ok (.getfield 81, 3) := by decide +kernel
theorem dX12_drop_54 : decode cX12_drop 54 = .ok (.bipush 24, 2) := by decide +kernel
theorem dX12_drop_56 : decode cX12_drop 56 = .ok (.iaload, 1) := by decide +kernel
theorem dX12_drop_57 : decode cX12_drop 57 = .ok (.iadd, 1) := by decide +kernel
theorem dX12_drop_58 : decode cX12_drop 58 = .ok (.iload_n 3, 1) := by decide +kernel
theorem dX12_drop_59 : decode cX12_drop 59 = .ok (.iadd, 1) := by decide +kernel
theorem dX12_drop_60 : decode cX12_drop 60 = .ok (.bipush (-2), 2) := by decide +kernel
theorem dX12_drop_62 : decode cX12_drop 62 = .ok (.iastore, 1) := by decide +kernel
theorem dX12_drop_63 : decode cX12_drop 63 = .ok (.iinc 3 1, 3) := by decide +kernel
theorem dX12_drop_66 : decode cX12_drop 66 = .ok (.goto (-27), 3) := by decide +kernel
theorem dX12_drop_69 : decode cX12_drop 69 = .ok (.iload_n 2, 1) := by decide +kernel
theorem dX12_drop_70 : decode cX12_drop 70 = .ok (.ireturn, 1) := by decide +kernel
theorem dX12_popInt_0 : decode cX12_popInt 0 = .ok (.aload_n 0, 1) := by decide +kernel
theorem dX12_popInt_1 : decode cX12_popInt 1 = .ok (.iconst 1, 1) := by decide +kernel
theorem dX12_popInt_2 : decode cX12_popInt 2 = .ok (.invokevirtual 225, 3) := by decide +kernel
theorem dX12_popInt_5 : decode cX12_popInt 5 = .ok (.ifCond .eq 20, 3) := by decide +kernel
theorem dX12_popInt_8 : decode cX12_popInt 8 = .ok (.aload_n 0, 1) := by decide +kernel
theorem dX12_popInt_9 : decode cX12_popInt 9 = .ok (.aload_n 0, 1) := by decide +kernel
theorem dX12_popInt_10 : decode cX12_popInt 10 = .ok (.iconst 0, 1) := by decide +kernel
theorem dX12_popInt_11 : decode cX12_popInt 11 = .ok (.invokevirtual 228, 3) := by decide +kernel
theorem dX12_popInt_14 : decode cX12_popInt 14 = .ok (.ifCond .ne 7, 3) := by decide +kernel
theorem dX12_popInt_17 : decode cX12_popInt 17 = .ok (.iconst 1, 1) := by decide +kernel
theorem dX12_popInt_18 : decode cX12_popInt 18 = .ok (.goto 4, 3) := by decide +kernel
theorem dX12_popInt_21 : decode cX12_popInt 21 = .ok (.iconst 0, 1) := by decide +kernel
theorem dX12_popInt_22 : decode cX12_popInt 22 = .ok (.invokevirtual 231, 3) := by decide +kernel
theorem dX12_popInt_25 : decode cX12_popInt 25 = .ok (.aload_n 0, 1) := by decide +kernel
theorem dX12_popInt_26 : decode cX12_popInt 26 = .ok (.iconst 1, 1) := by decide +kernel
theorem dX12_popInt_27 : decode cX12_popInt 27 = .ok (.invokevirtual 235, 3) := by decide +kernel
theorem dX12_popInt_30 : decode cX12_popInt 30 = .ok (.pop, 1) := by decide +kernel
theorem dX12_popInt_31 : decode cX12_popInt 31 = .ok (.return_, 1) := by decide +kernel
theorem dX12_popLong_0 : decode cX12_popLong 0 = .ok (.aload_n 0, 1) := by decide +kernel
theorem dX12_popLong_1 : decode cX12_popLong 1 = .ok (.iconst 2, 1) := by decide +kernel
theorem dX12_popLong_2 : decode cX12_popLong 2 = .ok (.invokevirtual 225, 3) := by decide +kernel
theorem dX12_popLong_5 : decode cX12_popLong 5 = .ok (.ifCond .eq 32, 3) := by decide +kernel
theorem dX12_popLong_8 : decode cX12_popLong 8 = .ok (.aload_n 0, 1) := by decide +kernel
theorem dX12_popLong_9 : decode cX12_popLong 9 = .ok (.aload_n 0, 1) := by decide +kernel
theorem dX12_popLong_10 : decode cX12_popLong 10 = .ok (.iconst 0, 1) := by decide +kernel
theorem dX12_popLong_11 : decode cX12_popLong 11 = .ok (.invokevirtual 228, 3) := by decide +kernel
theorem dX12_popLong_14 : decode cX12_popLong 14 = .ok (.bipush (-3), 2) := by decide +kernel
theorem dX12_popLong_16 : decode cX12_popLong 16 = .ok (.if_icmp .ne 17, 3) := by decide +kernel
theorem dX12_popLong_19 : decode cX12_popLong 19 = .ok (.aload_n 0, 1) := by decide +kernel
theorem dX12_popLong_20 : decode cX12_popLong 20 = .ok (.iconst 1, 1) := by decide +kernel
theorem dX12_popLong_21 : decode cX12_popLong 21 = .ok (.invokevirtual 228, 3) := by decide +kernel
theorem dX12_popLong_24 : decode cX12_popLong 24 = .ok (.bipush 8, 2) := by decide +kernel
theorem dX12_popLong_26 : decode cX12_popLong 26 = .ok (.if_icmp .ne 7, 3) := by decide +kernel
theorem dX12_popLong_29 : decode cX12_popLong 29 = .ok (.iconst 1, 1) := by decide +kernel
theorem dX12_popLong_30 : decode cX12_popLong 30 = .ok (.goto 4, 3) := by decide +kernel
theorem dX12_popLong_33 : decode cX12_popLong 33 = .ok (.iconst 0, 1) := by decide +kernel
theorem dX12_popLong_34 : decode cX12_popLong 34 = .ok (.invokevirtual 231, 3) := by decide +kernel
theorem dX12_popLong_37 : decode cX12_popLong 37 = .ok (.aload_n 0, 1) := by decide +kernel
theorem dX12_popLong_38 : decode cX12_popLong 38 = .ok (.iconst 2, 1) := by decide +kernel
theorem dX12_popLong_39 : decode cX12_popLong 39 = .ok (.invokevirtual 235, 3) := by decide +kernel
theorem dX12_popLong_42 : decode cX12_popLong 42 = .ok (.pop, 1) := by decide +kernel
theorem dX12_popLong_43 : decode cX12_popLong 43 = .ok (.return_, 1) := by decide +kernel
theorem dX12_popReference_0 : decode cX12_popReference 0 = .ok (.aload_n 0, 1) := by decide +kernel
theorem dX12_popReference_1 : decode cX12_popReference 1 = .ok (.iconst 1, 1) := by decide +kernel
theorem dX12_popReference_2 : decode cX12_popReference 2 = .ok (.invokevirtual 225, 3) := by decide +kernel
theorem dX12_popReference_5 : decode cX12_popReference 5 = .ok (.ifCond .eq 16, 3) := by decide +kernel
theorem dX12_popReference_8 : decode cX12_popReference 8 = .ok (.aload_n 0, 1) := by decide +kernel
theorem dX12_popReference_9 : decode cX12_popReference 9 = .ok (.aload_n 0, 1) := by decide +kernel
theorem dX12_popReference_10 : decode cX12_popReference 10 = .ok (.aload_n 0, 1) := by decide +kernel
theorem dX12_popReference_11 : decode cX12_popReference 11 = .ok (.iconst 0, 1) := by decide +kernel
theorem dX12_popReference_12 : decode cX12_popReference 12 = .ok (.invokevirtual 228, 3) := by decide +kernel
theorem dX12_popReference_15 : decode cX12_popReference 15 = .ok (.invokevirtual 103, 3) := by decide +kernel
theorem dX12_popReference_18 : decode cX12_popReference 18 = .ok (.invokevirtual 231, 3) := by decide +kernel
theorem dX12_popReference_21 : decode cX12_popReference 21 = .ok (.aload_n 0, 1) := by decide +kernel
theorem dX12_popReference_22 : decode cX12_popReference 22 = .ok (.iconst 1, 1) := by decide +kernel
theorem dX12_popReference_23 : decode cX12_popReference 23 = .ok (.invokevirtual 235, 3) := by decide +kernel
theorem dX12_popReference_26 : decode cX12_popReference 26 = .ok (.ireturn, 1) := by decide +kernel
theorem dX12_popAnyReference_0 : decode cX12_popAnyReference 0 = .ok (.aload_n 0, 1) := by decide +kernel
theorem dX12_popAnyReference_1 : decode cX12_popAnyReference 1 = .ok (.iconst 1, 1) := by decide +kernel
theorem dX12_popAnyReference_2 : decode cX12_popAnyReference 2 = .ok (.invokevirtual 225, 3) := by decide +kernel
theorem dX12_popAnyReference_5 : decode cX12_popAnyReference 5 = .ok (.ifCond .eq 16, 3) := by decide +kernel
theorem dX12_popAnyReference_8 : decode cX12_popAnyReference 8 = .ok (.aload_n 0, 1) := by decide +kernel
theorem dX12_popAnyReference_9 : decode cX12_popAnyReference 9 = .ok (.aload_n 0, 1) := by decide +kernel
theorem dX12_popAnyReference_10 : decode cX12_popAnyReference 10 = .ok (.aload_n 0, 1) := by decide +kernel
theorem dX12_popAnyReference_11 : decode cX12_popAnyReference 11 = .ok (.iconst 0, 1) := by decide +kernel
theorem dX12_popAnyReference_12 : decode cX12_popAnyReference 12 = .ok (.invokevirtual 228, 3) := by decide +kernel
theorem dX12_popAnyReference_15 : decode cX12_popAnyReference 15 = .ok (.invokevirtual 238, 3) := by decide +kernel
theorem dX12_popAnyReference_18 : decode cX12_popAnyReference 18 = .ok (.invokevirtual 231, 3) := by decide +kernel
theorem dX12_popAnyReference_21 : decode cX12_popAnyReference 21 = .ok (.aload_n 0, 1) := by decide +kernel
theorem dX12_popAnyReference_22 : decode cX12_popAnyReference 22 = .ok (.iconst 1, 1) := by decide +kernel
theorem dX12_popAnyReference_23 : decode cX12_popAnyReference 23 = .ok (.invokevirtual 235, 3) := by decide +kernel
theorem dX12_popAnyReference_26 : decode cX12_popAnyReference 26 = .ok (.ireturn, 1) := by decide +kernel
theorem dX12_popSlot_0 : decode cX12_popSlot 0 = .ok (.aload_n 0, 1) := by decide +kernel
theorem dX12_popSlot_1 : decode cX12_popSlot 1 = .ok (.iconst 1, 1) := by decide +kernel
theorem dX12_popSlot_2 : decode cX12_popSlot 2 = .ok (.invokevirtual 225, 3) := by decide +kernel
theorem dX12_popSlot_5 : decode cX12_popSlot 5 = .ok (.ifCond .eq 32, 3) := by decide +kernel
theorem dX12_popSlot_8 : decode cX12_popSlot 8 = .ok (.aload_n 0, 1) := by decide +kernel
theorem dX12_popSlot_9 : decode cX12_popSlot 9 = .ok (.aload_n 0, 1) := by decide +kernel
theorem dX12_popSlot_10 : decode cX12_popSlot 10 = .ok (.iconst 0, 1) := by decide +kernel
theorem dX12_popSlot_11 : decode cX12_popSlot 11 = .ok (.invokevirtual 228, 3) := by decide +kernel
theorem dX12_popSlot_14 : decode cX12_popSlot 14 = .ok (.bipush (-3), 2) := by decide +kernel
theorem dX12_popSlot_16 : decode cX12_popSlot 16 = .ok (.if_icmp .eq 17, 3) := by decide +kernel
theorem dX12_popSlot_19 : decode cX12_popSlot 19 = .ok (.aload_n 0, 1) := by decide +kernel
theorem dX12_popSlot_20 : decode cX12_popSlot 20 = .ok (.iconst 0, 1) := by decide +kernel
theorem dX12_popSlot_21 : decode cX12_popSlot 21 = .ok (.invokevirtual 228, 3) := by decide +kernel
theorem dX12_popSlot_24 : decode cX12_popSlot 24 = .ok (.bipush 8, 2) := by decide +kernel
theorem dX12_popSlot_26 : decode cX12_popSlot 26 = .ok (.if_icmp .eq 7, 3) := by decide +kernel
theorem dX12_popSlot_29 : decode cX12_popSlot 29 = .ok (.iconst 1, 1) := by decide +kernel
theorem dX12_popSlot_30 : decode cX12_popSlot 30 = .ok (.goto 4, 3) := by decide +kernel
theorem dX12_popSlot_33 : decode cX12_popSlot 33 = .ok (.iconst 0, 1) := by decide +kernel
theorem dX12_popSlot_34 : decode cX12_popSlot 34 = .ok (.invokevirtual 231, 3) := by decide +kernel
theorem dX12_popSlot_37 : decode cX12_popSlot 37 = .ok (.aload_n 0, 1) := by decide +kernel
theorem dX12_popSlot_38 : decode cX12_popSlot 38 = .ok (.iconst 1, 1) := by decide +kernel
theorem dX12_popSlot_39 : decode cX12_popSlot 39 = .ok (.invokevirtual 235, 3) := by decide +kernel
theorem dX12_popSlot_42 : decode cX12_popSlot 42 = .ok (.ireturn, 1) := by decide +kernel
theorem dX12_popType_0 : decode cX12_popType 0 = .ok (.iload_n 1, 1) := by decide +kernel
theorem dX12_popType_1 : decode cX12_popType 1 = .ok (.bipush 8, 2) := by decide +kernel
theorem dX12_popType_3 : decode cX12_popType 3 = .ok (.if_icmp .ne 10, 3) := by decide +kernel
theorem dX12_popType_6 : decode cX12_popType 6 = .ok (.aload_n 0, 1) := by decide +kernel
theorem dX12_popType_7 : decode cX12_popType 7 = .ok (.invokevirtual 241, 3) := by decide +kernel
theorem dX12_popType_10 : decode cX12_popType 10 = .ok (.goto 51, 3) := by decide +kernel
theorem dX12_popType_13 : decode cX12_popType 13 = .ok (.aload_n 0, 1) := by decide +kernel
theorem dX12_popType_14 : decode cX12_popType 14 = .ok (.iconst 1, 1) := by decide +kernel
theorem dX12_popType_15 : decode cX12_popType 15 = .ok (.invokevirtual 225, 3) := by decide +kernel
theorem dX12_popType_18 : decode cX12_popType 18 = .ok (.ifCond .eq 37, 3) := by decide +kernel
theorem dX12_popType_21 : decode cX12_popType 21 = .ok (.aload_n 0, 1) := by decide +kernel
theorem dX12_popType_22 : decode cX12_popType 22 = .ok (.iload_n 1, 1) := by decide +kernel
theorem dX12_popType_23 : decode cX12_popType 23 = .ok (.ifCond .ne 19, 3) := by decide +kernel
theorem dX12_popType_26 : decode cX12_popType 26 = .ok (.aload_n 0, 1) := by decide +kernel
theorem dX12_popType_27 : decode cX12_popType 27 = .ok (.iconst 0, 1) := by decide +kernel
theorem dX12_popType_28 : decode cX12_popType 28 = .ok (.invokevirtual 228, 3) := by decide +kernel
theorem dX12_popType_31 : decode cX12_popType 31 = .ok (.ifCond .ne 7, 3) := by decide +kernel
theorem dX12_popType_34 : decode cX12_popType 34 = .ok (.iconst 1, 1) := by decide +kernel
theorem dX12_popType_35 : decode cX12_popType 35 = .ok (.goto 17, 3) := by decide +kernel
theorem dX12_popType_38 : decode cX12_popType 38 = .ok (.iconst 0, 1) := by decide +kernel
theorem dX12_popType_39 : decode cX12_popType 39 = .ok (.goto 13, 3) := by decide +kernel
theorem dX12_popType_42 : decode cX12_popType 42 = .ok (.aload_n 0, 1) := by decide +kernel
theorem dX12_popType_43 : decode cX12_popType 43 = .ok (.aload_n 0, 1) := by decide +kernel
theorem dX12_popType_44 : decode cX12_popType 44 = .ok (.iconst 0, 1) := by decide +kernel
theorem dX12_popType_45 : decode cX12_popType 45 = .ok (.invokevirtual 228, 3) := by decide +kernel
theorem dX12_popType_48 : decode cX12_popType 48 = .ok (.iload_n 1, 1) := by decide +kernel
theorem dX12_popType_49 : decode cX12_popType 49 = .ok (.invokevirtual 130, 3) := by decide +kernel
theorem dX12_popType_52 : decode cX12_popType 52 = .ok (.invokevirtual 231, 3) := by decide +kernel
theorem dX12_popType_55 : decode cX12_popType 55 = .ok (.aload_n 0, 1) := by decide +kernel
theorem dX12_popType_56 : decode cX12_popType 56 = .ok (.iconst 1, 1) := by decide +kernel
theorem dX12_popType_57 : decode cX12_popType 57 = .ok (.invokevirtual 235, 3) := by decide +kernel
theorem dX12_popType_60 : decode cX12_popType 60 = .ok (.pop, 1) := by decide +kernel
theorem dX12_popType_61 : decode cX12_popType 61 = .ok (.return_, 1) := by decide +kernel
theorem dX12_popObject_0 : decode cX12_popObject 0 = .ok (.aload_n 0, 1) := by decide +kernel
theorem dX12_popObject_1 : decode cX12_popObject 1 = .ok (.bipush 8, 2) := by decide +kernel
theorem dX12_popObject_3 : decode cX12_popObject 3 = .ok (.iload_n 1, 1) := by decide +kernel
theorem dX12_popObject_4 : decode cX12_popObject 4 = .ok (.imul, 1) := by decide +kernel
theorem dX12_popObject_5 : decode cX12_popObject 5 = .ok (.invokevirtual 244, 3) := by decide +kernel
theorem dX12_popObject_8 : decode cX12_popObject 8 = .ok (.return_, 1) := by decide +kernel
theorem dX12_popInts_0 : decode cX12_popInts 0 = .ok (.aload_n 0, 1) := by decide +kernel
theorem dX12_popInts_1 : decode cX12_popInts 1 = .ok (.iconst 1, 1) := by decide +kernel
theorem dX12_popInts_2 : decode cX12_popInts 2 = .ok (.invokevirtual 225, 3) := by decide +kernel
theorem dX12_popInts_5 : decode cX12_popInts 5 = .ok (.ifCond .eq 30, 3) := by decide +kernel
theorem dX12_popInts_8 : decode cX12_popInts 8 = .ok (.aload_n 0, 1) := by decide +kernel
theorem dX12_popInts_9 : decode cX12_popInts 9 = .ok (.aload_n 0, 1) := by decide +kernel
theorem dX12_popInts_10 : decode cX12_popInts 10 = .ok (.iconst 0, 1) := by decide +kernel
theorem dX12_popInts_11 : decode cX12_popInts 11 = .ok (.invokevirtual 228, 3) := by decide +kernel
theorem dX12_popInts_14 : decode cX12_popInts 14 = .ok (.iconst 1, 1) := by decide +kernel
theorem dX12_popInts_15 : decode cX12_popInts 15 = .ok (.if_icmp .eq 12, 3) := by decide +kernel
theorem dX12_popInts_18 : decode cX12_popInts 18 = .ok (.aload_n 0, 1) := by decide +kernel
theorem dX12_popInts_19 : decode cX12_popInts 19 = .ok (.iconst 0, 1) := by decide +kernel
theorem dX12_popInts_20 : decode cX12_popInts 20 = .ok (.invokevirtual 228, 3) := by decide +kernel
theorem dX12_popInts_23 : decode cX12_popInts 23 = .ok (.iconst (-1), 1) := by decide +kernel
theorem dX12_popInts_24 : decode cX12_popInts 24 = .ok (.if_icmp .ne 7, 3) := by decide +kernel
theorem dX12_popInts_27 : decode cX12_popInts 27 = .ok (.iconst 1, 1) := by decide +kernel
theorem dX12_popInts_28 : decode cX12_popInts 28 = .ok (.goto 4, 3) := by decide +kernel
theorem dX12_popInts_31 : decode cX12_popInts 31 = .ok (.iconst 0, 1) := by decide +kernel
theorem dX12_popInts_32 : decode cX12_popInts 32 = .ok (.invokevirtual 231, 3) := by decide +kernel
theorem dX12_popInts_35 : decode cX12_popInts 35 = .ok (.aload_n 0, 1) := by decide +kernel
theorem dX12_popInts_36 : decode cX12_popInts 36 = .ok (.iconst 1, 1) := by decide +kernel
theorem dX12_popInts_37 : decode cX12_popInts 37 = .ok (.invokevirtual 235, 3) := by decide +kernel
theorem dX12_popInts_40 : decode cX12_popInts 40 = .ok (.pop, 1) := by decide +kernel
theorem dX12_popInts_41 : decode cX12_popInts 41 = .ok (.return_, 1) := by decide +kernel
theorem dX12_popRow_0 : decode cX12_popRow 0 = .ok (.aload_n 0, 1) := by decide +kernel
theorem dX12_popRow_1 : decode cX12_popRow 1 = .ok (.iconst 1, 1) := by decide +kernel
theorem dX12_popRow_2 : decode cX12_popRow 2 = .ok (.invokevirtual 225, 3) := by decide +kernel
theorem dX12_popRow_5 : decode cX12_popRow 5 = .ok (.ifCond .eq 33, 3) := by decide +kernel
theorem dX12_popRow_8 : decode cX12_popRow 8 = .ok (.aload_n 0, 1) := by decide +kernel
theorem dX12_popRow_9 : decode cX12_popRow 9 = .ok (.aload_n 0, 1) := by decide +kernel
theorem dX12_popRow_10 : decode cX12_popRow 10 = .ok (.iconst 0, 1) := by decide +kernel
theorem dX12_popRow_11 : decode cX12_popRow 11 = .ok (.invokevirtual 228, 3) := by decide +kernel
theorem dX12_popRow_14 : decode cX12_popRow 14 = .ok (.iconst (-1), 1) := by decide +kernel
theorem dX12_popRow_15 : decode cX12_popRow 15 = .ok (.if_icmp .eq 15, 3) := by decide +kernel
theorem dX12_popRow_18 : decode cX12_popRow 18 = .ok (.aload_n 0, 1) := by decide +kernel
theorem dX12_popRow_19 : decode cX12_popRow 19 = .ok (.aload_n 0, 1) := by decide +kernel
theorem dX12_popRow_20 : decode cX12_popRow 20 = .ok (.iconst 0, 1) := by decide +kernel
theorem dX12_popRow_21 : decode cX12_popRow 21 = .ok (.invokevirtual 228, 3) := by decide +kernel
theorem dX12_popRow_24 : decode cX12_popRow 24 = .ok (.invokevirtual 106, 3) := by decide +kernel
theorem dX12_popRow_27 : decode cX12_popRow 27 = .ok (.ifCond .eq 7, 3) := by decide +kernel
theorem dX12_popRow_30 : decode cX12_popRow 30 = .ok (.iconst 1, 1) := by decide +kernel
theorem dX12_popRow_31 : decode cX12_popRow 31 = .ok (.goto 4, 3) := by decide +kernel
theorem dX12_popRow_34 : decode cX12_popRow 34 = .ok (.iconst 0, 1) := by decide +kernel
theorem dX12_popRow_35 : decode cX12_popRow 35 = .ok (.invokevirtual 231, 3) := by decide +kernel
theorem dX12_popRow_38 : decode cX12_popRow 38 = .ok (.aload_n 0, 1) := by decide +kernel
theorem dX12_popRow_39 : decode cX12_popRow 39 = .ok (.iconst 1, 1) := by decide +kernel
theorem dX12_popRow_40 : decode cX12_popRow 40 = .ok (.invokevirtual 235, 3) := by decide +kernel
theorem dX12_popRow_43 : decode cX12_popRow 43 = .ok (.ireturn, 1) := by decide +kernel
theorem dX12_push_0 : decode cX12_push 0 = .ok (.aload_n 0, 1) := by decide +kernel
theorem dX12_push_1 : decode cX12_push 1 = .ok (.invokevirtual 218, 3) := by decide +kernel
theorem dX12_push_4 : decode cX12_push 4 = .ok (.ifCond .ne 4, 3) := by decide +kernel
theorem dX12_push_7 : decode cX12_push 7 = .ok (.return_, 1) := by decide +kernel
theorem dX12_push_8 : decode cX12_push 8 = .ok (.aload_n 0, 1) := by decide +kernel
theorem dX12_push_9 : decode cX12_push 9 = .ok (.getfield 81, 3) := by decide +kernel
theorem dX12_push_12 : decode cX12_push 12 = .ok (.bipush 24, 2) := by decide +kernel
theorem dX12_push_14 : decode cX12_push 14 = .ok (.iaload, 1) := by decide +kernel
theorem dX12_push_15 : decode cX12_push 15 = .ok (.bipush 12, 2) := by decide +kernel
theorem dX12_push_17 : decode cX12_push 17 = .ok (.if_icmp .ge 19, 3) := by decide +kernel
theorem dX12_push_20 : decode cX12_push 20 = .ok (.aload_n 0, 1) := by decide +kernel
theorem dX12_push_21 : decode cX12_push 21 = .ok (.getfield 81, 3) := by decide +kernel
theorem dX12_push_24 : decode cX12_push 24 = .ok (.bipush 12, 2) := by decide +kernel
theorem dX12_push_26 : decode cX12_push 26 = .ok (.aload_n 0, 1) := by decide +kernel
theorem dX12_push_27 : decode cX12_push 27 = .ok (.getfield 81, 3) := by decide +kernel
theorem dX12_push_30 : decode cX12_push 30 = .ok (.bipush 24, 2) := by decide +kernel
theorem dX12_push_32 : decode cX12_push 32 = .ok (.iaload, 1) := by decide +kernel
theorem dX12_push_33 : decode cX12_push 33 = .ok (.iadd, 1) := by decide +kernel
theorem dX12_push_34 : decode cX12_push 34 = .ok (.iload_n 1, 1) := by decide +kernel
theorem dX12_push_35 : decode cX12_push 35 = .ok (.iastore, 1) := by decide +kernel
theorem dX12_push_36 : decode cX12_push 36 = .ok (.aload_n 0, 1) := by decide +kernel
theorem dX12_push_37 : decode cX12_push 37 = .ok (.getfield 81, 3) := by decide +kernel
theorem dX12_push_40 : decode cX12_push 40 = .ok (.bipush 24, 2) := by decide +kernel
theorem dX12_push_42 : decode cX12_push 42 = .ok (.dup2, 1) := by decide +kernel
theorem dX12_push_43 : decode cX12_push 43 = .ok (.iaload, 1) := by decide +kernel
theorem dX12_push_44 : decode cX12_push 44 = .ok (.iconst 1, 1) := by decide +kernel
theorem dX12_push_45 : decode cX12_push 45 = .ok (.iadd, 1) := by decide +kernel
theorem dX12_push_46 : decode cX12_push 46 = .ok (.iastore, 1) := by decide +kernel
theorem dX12_push_47 : decode cX12_push 47 = .ok (.return_, 1) := by decide +kernel
theorem dX12_pushType_0 : decode cX12_pushType 0 = .ok (.iload_n 1, 1) := by decide +kernel
theorem dX12_pushType_1 : decode cX12_pushType 1 = .ok (.iconst (-1), 1) := by decide +kernel
theorem dX12_pushType_2 : decode cX12_pushType 2 = .ok (.if_icmp .ne 4, 3) := by decide +kernel
theorem dX12_pushType_5 : decode cX12_pushType 5 = .ok (.return_, 1) := by decide +kernel
theorem dX12_pushType_6 : decode cX12_pushType 6 = .ok (.aload_n 0, 1) := by decide +kernel
theorem dX12_pushType_7 : decode cX12_pushType 7 = .ok (.iload_n 1, 1) := by decide +kernel
theorem dX12_pushType_8 : decode cX12_pushType 8 = .ok (.invokevirtual 247, 3) := by decide +kernel
theorem dX12_pushType_11 : decode cX12_pushType 11 = .ok (.iload_n 1, 1) := by decide +kernel
theorem dX12_pushType_12 : decode cX12_pushType 12 = .ok (.bipush 8, 2) := by decide +kernel
theorem dX12_pushType_14 : decode cX12_pushType 14 = .ok (.if_icmp .ne 9, 3) := by decide +kernel
theorem dX12_pushType_17 : decode cX12_pushType 17 = .ok (.aload_n 0, 1) := by decide +kernel
theorem dX12_pushType_18 : decode cX12_pushType 18 = .ok (.bipush (-3), 2) := by decide +kernel
theorem dX12_pushType_20 : decode cX12_pushType 20 = .ok (.invokevirtual 247, 3) := by decide +kernel
theorem dX12_pushType_23 : decode cX12_pushType 23 = .ok (.return_, 1) := by decide +kernel
theorem dX12_setLocal_0 : decode cX12_setLocal 0 = .ok (.aload_n 0, 1) := by decide +kernel
theorem dX12_setLocal_1 : decode cX12_setLocal 1 = .ok (.invokevirtual 218, 3) := by decide +kernel
theorem dX12_setLocal_4 : decode cX12_setLocal 4 = .ok (.ifCond .ne 4, 3) := by decide +kernel
theorem dX12_setLocal_7 : decode cX12_setLocal 7 = .ok (.return_, 1) := by decide +kernel
theorem dX12_setLocal_8 : decode cX12_setLocal 8 = .ok (.aload_n 0, 1) := by decide +kernel
theorem dX12_setLocal_9 : decode cX12_setLocal 9 = .ok (.getfield 81, 3) := by decide +kernel
theorem dX12_setLocal_12 : decode cX12_setLocal 12 = .ok (.iload_n 1, 1) := by decide +kernel
theorem dX12_setLocal_13 : decode cX12_setLocal 13 = .ok (.iaload, 1) := by decide +kernel
theorem dX12_setLocal_14 : decode cX12_setLocal 14 = .ok (.bipush (-3), 2) := by decide +kernel
theorem dX12_setLocal_16 : decode cX12_setLocal 16 = .ok (.if_icmp .ne 30, 3) := by decide +kernel
theorem dX12_setLocal_19 : decode cX12_setLocal 19 = .ok (.iload_n 1, 1) := by decide +kernel
theorem dX12_setLocal_20 : decode cX12_setLocal 20 = .ok (.ifCond .le 26, 3) := by decide +kernel
theorem dX12_setLocal_23 : decode cX12_setLocal 23 = .ok (.aload_n 0, 1) := by decide +kernel
theorem dX12_setLocal_24 : decode cX12_setLocal 24 = .ok (.getfield 81, 3) := by decide +kernel
theorem dX12_setLocal_27 : decode cX12_setLocal 27 = .ok (.iload_n 1, 1) := by decide +kernel
theorem dX12_setLocal_28 : decode cX12_setLocal 28 = .ok (.iconst 1, 1) := by decide +kernel
theorem dX12_setLocal_29 : decode cX12_setLocal 29 = .ok (.isub, 1) := by decide +kernel
theorem dX12_setLocal_30 : decode cX12_setLocal 30 = .ok (.iaload, 1) := by decide +kernel
theorem dX12_setLocal_31 : decode cX12_setLocal 31 = .ok (.bipush 8, 2) := by decide +kernel
theorem dX12_setLocal_33 : decode cX12_setLocal 33 = .ok (.if_icmp .ne 13, 3) := by decide +kernel
theorem dX12_setLocal_36 : decode cX12_setLocal 36 = .ok (.aload_n 0, 1) := by decide +kernel
theorem dX12_setLocal_37 : decode cX12_setLocal 37 = .ok (.getfield 81, 3) := by decide +kernel
theorem dX12_setLocal_40 : decode cX12_setLocal 40 = .ok (.iload_n 1, 1) := by decide +kernel
theorem dX12_setLocal_41 : decode cX12_setLocal 41 = .ok (.iconst 1, 1) := by decide +kernel
theorem dX12_setLocal_42 : decode cX12_setLocal 42 = .ok (.isub, 1) := by decide +kernel
theorem dX12_setLocal_43 : decode cX12_setLocal 43 = .ok (.bipush (-2), 2) := by decide +kernel
theorem dX12_setLocal_45 : decode cX12_setLocal 45 = .ok (.iastore, 1) := by decide +kernel
theorem dX12_setLocal_46 : decode cX12_setLocal 46 = .ok (.aload_n 0, 1) := by decide +kernel
theorem dX12_setLocal_47 : decode cX12_setLocal 47 = .ok (.getfield 81, 3) := by decide +kernel
theorem dX12_setLocal_50 : decode cX12_setLocal 50 = .ok (.iload_n 1, 1) := by decide +kernel
theorem dX12_setLocal_51 : decode cX12_setLocal 51 = .ok (.iaload, 1) := by decide +kernel
theorem dX12_setLocal_52 : decode cX12_setLocal 52 = .ok (.bipush 8, 2) := by decide +kernel
theorem dX12_setLocal_54 : decode cX12_setLocal 54 = .ok (.if_icmp .ne 26, 3) := by decide +kernel
theorem dX12_setLocal_57 : decode cX12_setLocal 57 = .ok (.aload_n 0, 1) := by decide +kernel
theorem dX12_setLocal_58 : decode cX12_setLocal 58 = .ok (.getfield 81, 3) := by decide +kernel
theorem dX12_setLocal_61 : decode cX12_setLocal 61 = .ok (.iload_n 1, 1) := by decide +kernel
theorem dX12_setLocal_62 : decode cX12_setLocal 62 = .ok (.iconst 1, 1) := by decide +kernel
theorem dX12_setLocal_63 : decode cX12_setLocal 63 = .ok (.iadd, 1) := by decide +kernel
theorem dX12_setLocal_64 : decode cX12_setLocal 64 = .ok (.iaload, 1) := by decide +kernel
theorem dX12_setLocal_65 : decode cX12_setLocal 65 = .ok (.bipush (-3), 2) := by decide +kernel
theorem dX12_setLocal_67 : decode cX12_setLocal 67 = .ok (.if_icmp .ne 13, 3) := by decide +kernel
theorem dX12_setLocal_70 : decode cX12_setLocal 70 = .ok (.aload_n 0, 1) := by decide +kernel
theorem dX12_setLocal_71 : decode cX12_setLocal 71 = .ok (.getfield 81, 3) := by decide +kernel
theorem dX12_setLocal_74 : decode cX12_setLocal 74 = .ok (.iload_n 1, 1) := by decide +kernel
theorem dX12_setLocal_75 : decode cX12_setLocal 75 = .ok (.iconst 1, 1) := by decide +kernel
theorem dX12_setLocal_76 : decode cX12_setLocal 76 = .ok (.iadd, 1) := by decide +kernel
theorem dX12_setLocal_77 : decode cX12_setLocal 77 = .ok (.bipush (-2), 2) := by decide +kernel
theorem dX12_setLocal_79 : decode cX12_setLocal 79 = .ok (.iastore, 1) := by decide +kernel
theorem dX12_setLocal_80 : decode cX12_setLocal 80 = .ok (.aload_n 0, 1) := by decide +kernel
theorem dX12_setLocal_81 : decode cX12_setLocal 81 = .ok (.getfield 81, 3) := by decide +kernel
theorem dX12_setLocal_84 : decode cX12_setLocal 84 = .ok (.iload_n 1, 1) := by decide +kernel
theorem dX12_setLocal_85 : decode cX12_setLocal 85 = .ok (.iload_n 2, 1) := by decide +kernel
theorem dX12_setLocal_86 : decode cX12_setLocal 86 = .ok (.iastore, 1) := by decide +kernel
theorem dX12_setLocal_87 : decode cX12_setLocal 87 = .ok (.return_, 1) := by decide +kernel
theorem dX12_storeLong_0 : decode cX12_storeLong 0 = .ok (.aload_n 0, 1) := by decide +kernel
theorem dX12_storeLong_1 : decode cX12_storeLong 1 = .ok (.invokevirtual 218, 3) := by decide +kernel
theorem dX12_storeLong_4 : decode cX12_storeLong 4 = .ok (.ifCond .ne 4, 3) := by decide +kernel
theorem dX12_storeLong_7 : decode cX12_storeLong 7 = .ok (.return_, 1) := by decide +kernel
theorem dX12_storeLong_8 : decode cX12_storeLong 8 = .ok (.aload_n 0, 1) := by decide +kernel
theorem dX12_storeLong_9 : decode cX12_storeLong 9 = .ok (.iload_n 1, 1) := by decide +kernel
theorem dX12_storeLong_10 : decode cX12_storeLong 10 = .ok (.bipush (-2), 2) := by decide +kernel
theorem dX12_storeLong_12 : decode cX12_storeLong 12 = .ok (.invokevirtual 250, 3) := by decide +kernel
theorem dX12_storeLong_15 : decode cX12_storeLong 15 = .ok (.aload_n 0, 1) := by decide +kernel
theorem dX12_storeLong_16 : decode cX12_storeLong 16 = .ok (.iload_n 1, 1) := by decide +kernel
theorem dX12_storeLong_17 : decode cX12_storeLong 17 = .ok (.iconst 1, 1) := by decide +kernel
theorem dX12_storeLong_18 : decode cX12_storeLong 18 = .ok (.iadd, 1) := by decide +kernel
theorem dX12_storeLong_19 : decode cX12_storeLong 19 = .ok (.bipush (-2), 2) := by decide +kernel
theorem dX12_storeLong_21 : decode cX12_storeLong 21 = .ok (.invokevirtual 250, 3) := by decide +kernel
theorem dX12_storeLong_24 : decode cX12_storeLong 24 = .ok (.aload_n 0, 1) := by decide +kernel
theorem dX12_storeLong_25 : decode cX12_storeLong 25 = .ok (.getfield 81, 3) := by decide +kernel
theorem dX12_storeLong_28 : decode cX12_storeLong 28 = .ok (.iload_n 1, 1) := by decide +kernel
theorem dX12_storeLong_29 : decode cX12_storeLong 29 = .ok (.bipush 8, 2) := by decide +kernel
theorem dX12_storeLong_31 : decode cX12_storeLong 31 = .ok (.iastore, 1) := by decide +kernel
theorem dX12_storeLong_32 : decode cX12_storeLong 32 = .ok (.aload_n 0, 1) := by decide +kernel
theorem dX12_storeLong_33 : decode cX12_storeLong 33 = .ok (.getfield 81, 3) := by decide +kernel
theorem dX12_storeLong_36 : decode cX12_storeLong 36 = .ok (.iload_n 1, 1) := by decide +kernel
theorem dX12_storeLong_37 : decode cX12_storeLong 37 = .ok (.iconst 1, 1) := by decide +kernel
theorem dX12_storeLong_38 : decode cX12_storeLong 38 = .ok (.iadd, 1) := by decide +kernel
theorem dX12_storeLong_39 : decode cX12_storeLong 39 = .ok (.bipush (-3), 2) := by decide +kernel
theorem dX12_storeLong_41 : decode cX12_storeLong 41 = .ok (.iastore, 1) := by decide +kernel
theorem dX12_storeLong_42 : decode cX12_storeLong 42 = .ok (.return_, 1) := by decide +kernel
theorem dX12_replace_0 : decode cX12_replace 0 = .ok (.iconst 0, 1) := by decide +kernel
theorem dX12_replace_1 : decode cX12_replace 1 = .ok (.istore_n 3, 1) := by decide +kernel
theorem dX12_replace_2 : decode cX12_replace 2 = .ok (.iload_n 3, 1) := by decide +kernel
theorem dX12_replace_3 : decode cX12_replace 3 = .ok (.bipush 24, 2) := by decide +kernel
theorem dX12_replace_5 : decode cX12_replace 5 = .ok (.if_icmp .ge 26, 3) := by decide +kernel
theorem dX12_replace_8 : decode cX12_replace 8 = .ok (.aload_n 0, 1) := by decide +kernel
theorem dX12_replace_9 : decode cX12_replace 9 = .ok (.getfield 81, 3) := by decide +kernel
theorem dX12_replace_12 : decode cX12_replace 12 = .ok (.iload_n 3, 1) := by decide +kernel
theorem dX12_replace_13 : decode cX12_replace 13 = .ok (.iaload, 1) := by decide +kernel
theorem dX12_replace_14 : decode cX12_replace 14 = .ok (.iload_n 1, 1) := by decide +kernel
theorem dX12_replace_15 : decode cX12_replace 15 = .ok (.if_icmp .ne 10, 3) := by decide +kernel
theorem dX12_replace_18 : decode cX12_replace 18 = .ok (.aload_n 0, 1) := by decide +kernel
theorem dX12_replace_19 : decode cX12_replace 19 = .ok (.getfield 81, 3) := by decide +kernel
theorem dX12_replace_22 : decode cX12_replace 22 = .ok (.iload_n 3, 1) := by decide +kernel
theorem dX12_replace_23 : decode cX12_replace 23 = .ok (.iload_n 2, 1) := by decide +kernel
theorem dX12_replace_24 : decode cX12_replace 24 = .ok (.iastore, 1) := by decide +kernel
theorem dX12_replace_25 : decode cX12_replace 25 = .ok (.iinc 3 1, 3) := by decide +kernel
theorem dX12_replace_28 : decode cX12_replace 28 = .ok (.goto (-26), 3) := by decide +kernel
theorem dX12_replace_31 : decode cX12_replace 31 = .ok (.return_, 1) := by decide +kernel
theorem dX12_look_0 : decode cX12_look 0 = .ok (.iload_n 1, 1) := by decide +kernel
theorem dX12_look_1 : decode cX12_look 1 = .ok (.ifCond .ne 12, 3) := by decide +kernel
theorem dX12_look_4 : decode cX12_look 4 = .ok (.aload_n 0, 1) := by decide +kernel
theorem dX12_look_5 : decode cX12_look 5 = .ok (.iconst 5, 1) := by decide +kernel
theorem dX12_look_6 : decode cX12_look 6 = .ok (.aload_n 0, 1) := by decide +kernel
theorem dX12_look_7 : decode cX12_look 7 = .ok (.getfield 222, 3) := by decide +kernel
theorem dX12_look_10 : decode cX12_look 10 = .ok (.invokevirtual 208, 3) := by decide +kernel
theorem dX12_look_13 : decode cX12_look 13 = .ok (.return_, 1) := by decide +kernel
theorem dX12_execute_0 : decode cX12_execute 0 = .ok (.aload_n 0, 1) := by decide +kernel
theorem dX12_execute_1 : decode cX12_execute 1 = .ok (.getfield 45, 3) := by decide +kernel
theorem dX12_execute_4 : decode cX12_execute 4 = .ok (.aload_n 0, 1) := by decide +kernel
theorem dX12_execute_5 : decode cX12_execute 5 = .ok (.getfield 222, 3) := by decide +kernel
theorem dX12_execute_8 : decode cX12_execute 8 = .ok (.iaload, 1) := by decide +kernel
theorem dX12_execute_9 : decode cX12_execute 9 = .ok (.istore_n 1, 1) := by decide +kernel
theorem dX12_execute_10 : decode cX12_execute 10 = .ok (.aload_n 0, 1) := by decide +kernel
theorem dX12_execute_11 : decode cX12_execute 11 = .ok (.getfield 48, 3) := by decide +kernel
theorem dX12_execute_14 : decode cX12_execute 14 = .ok (.aload_n 0, 1) := by decide +kernel
theorem dX12_execute_15 : decode cX12_execute 15 = .ok (.getfield 222, 3) := by decide +kernel
theorem dX12_execute_18 : decode cX12_execute 18 = .ok (.iaload, 1) := by decide +kernel
theorem dX12_execute_19 : decode cX12_execute 19 = .ok (.istore_n 2, 1) := by decide +kernel
theorem dX12_execute_20 : decode cX12_execute 20 = .ok (.iload_n 1, 1) := by decide +kernel
theorem dX12_execute_21 : decode cX12_execute 21 = .ok (.bipush 9, 2) := by decide +kernel
theorem dX12_execute_23 : decode cX12_execute 23 = .ok (.if_icmp .gt 12, 3) := by decide +kernel
theorem dX12_execute_26 : decode cX12_execute 26 = .ok (.aload_n 0, 1) := by decide +kernel
theorem dX12_execute_27 : decode cX12_execute 27 = .ok (.iload_n 1, 1) := by decide +kernel
theorem dX12_execute_28 : decode cX12_execute 28 = .ok (.iload_n 2, 1) := by decide +kernel
theorem dX12_execute_29 : decode cX12_execute 29 = .ok (.invokevirtual 253, 3) := by decide +kernel
theorem dX12_execute_32 : decode cX12_execute 32 = .ok (.goto 67, 3) := by decide +kernel
theorem dX12_execute_35 : decode cX12_execute 35 = .ok (.iload_n 1, 1) := by decide +kernel
theorem dX12_execute_36 : decode cX12_execute 36 = .ok (.bipush 15, 2) := by decide +kernel
theorem dX12_execute_38 : decode cX12_execute 38 = .ok (.if_icmp .gt 11, 3) := by decide +kernel
theorem dX12_execute_41 : decode cX12_execute 41 = .ok (.aload_n 0, 1) := by decide +kernel
theorem dX12_execute_42 : decode cX12_execute 42 = .ok (.iload_n 1, 1) := by decide +kernel
theorem dX12_execute_43 : decode cX12_execute 43 = .ok (.invokevirtual 256, 3) := by decide +kernel
theorem dX12_execute_46 : decode cX12_execute 46 = .ok (.goto 53, 3) := by decide +kernel
theorem dX12_execute_49 : decode cX12_execute 49 = .ok (.iload_n 1, 1) := by decide +kernel
theorem dX12_execute_50 : decode cX12_execute 50 = .ok (.bipush 26, 2) := by decide +kernel
theorem dX12_execute_52 : decode cX12_execute 52 = .ok (.if_icmp .gt 12, 3) := by decide +kernel
theorem dX12_execute_55 : decode cX12_execute 55 = .ok (.aload_n 0, 1) := by decide +kernel
theorem dX12_execute_56 : decode cX12_execute 56 = .ok (.iload_n 1, 1) := by decide +kernel
theorem dX12_execute_57 : decode cX12_execute 57 = .ok (.iload_n 2, 1) := by decide +kernel
theorem dX12_execute_58 : decode cX12_execute 58 = .ok (.invokevirtual 259, 3) := by decide +kernel
theorem dX12_execute_61 : decode cX12_execute 61 = .ok (.goto 38, 3) := by decide +kernel
theorem dX12_execute_64 : decode cX12_execute 64 = .ok (.iload_n 1, 1) := by decide +kernel
theorem dX12_execute_65 : decode cX12_execute 65 = .ok (.bipush 31, 2) := by decide +kernel
theorem dX12_execute_67 : decode cX12_execute 67 = .ok (.if_icmp .gt 11, 3) := by decide +kernel
theorem dX12_execute_70 : decode cX12_execute 70 = .ok (.aload_n 0, 1) := by decide +kernel
theorem dX12_execute_71 : decode cX12_execute 71 = .ok (.iload_n 1, 1) := by decide +kernel
theorem dX12_execute_72 : decode cX12_execute 72 = .ok (.invokevirtual 262, 3) := by decide +kernel
theorem dX12_execute_75 : decode cX12_execute 75 = .ok (.goto 24, 3) := by decide +kernel
theorem dX12_execute_78 : decode cX12_execute 78 = .ok (.iload_n 1, 1) := by decide +kernel
theorem dX12_execute_79 : decode cX12_execute 79 = .ok (.bipush 37, 2) := by decide +kernel
theorem dX12_execute_81 : decode cX12_execute 81 = .ok (.if_icmp .gt 12, 3) := by decide +kernel
theorem dX12_execute_84 : decode cX12_execute 84 = .ok (.aload_n 0, 1) := by decide +kernel
theorem dX12_execute_85 : decode cX12_execute 85 = .ok (.iload_n 1, 1) := by decide +kernel
theorem dX12_execute_86 : decode cX12_execute 86 = .ok (.iload_n 2, 1) := by decide +kernel
theorem dX12_execute_87 : decode cX12_execute 87 = .ok (.invokevirtual 265, 3) := by decide +kernel
theorem dX12_execute_90 : decode cX12_execute 90 = .ok (.goto 9, 3) := by decide +kernel
theorem dX12_execute_93 : decode cX12_execute 93 = .ok (.aload_n 0, 1) := by decide +kernel
theorem dX12_execute_94 : decode cX12_execute 94 = .ok (.iload_n 1, 1) := by decide +kernel
theorem dX12_execute_95 : decode cX12_execute 95 = .ok (.iload_n 2, 1) := by decide +kernel
theorem dX12_execute_96 : decode cX12_execute 96 = .ok (.invokevirtual 268, 3) := by decide +kernel
theorem dX12_execute_99 : decode cX12_execute 99 = .ok (.aload_n 0, 1) := by decide +kernel
theorem dX12_execute_100 : decode cX12_execute 100 = .ok (.invokevirtual 218, 3) := by decide +kernel
theorem dX12_execute_103 : decode cX12_execute 103 = .ok (.ifCond .eq 27, 3) := by decide +kernel
theorem dX12_execute_106 : decode cX12_execute 106 = .ok (.aload_n 0, 1) := by decide +kernel
theorem dX12_execute_107 : decode cX12_execute 107 = .ok (.getfield 81, 3) := by decide +kernel
theorem dX12_execute_110 : decode cX12_execute 110 = .ok (.bipush 24, 2) := by decide +kernel
theorem dX12_execute_112 : decode cX12_execute 112 = .ok (.iaload, 1) := by decide +kernel
theorem dX12_execute_113 : decode cX12_execute 113 = .ok (.aload_n 0, 1) := by decide +kernel
theorem dX12_execute_114 : decode cX12_execute 114 = .ok (.getfield 159, 3) := by decide +kernel
theorem dX12_execute_117 : decode cX12_execute 117 = .ok (.if_icmp .le 13, 3) := by decide +kernel
theorem dX12_execute_120 : decode cX12_execute 120 = .ok (.aload_n 0, 1) := by decide +kernel
theorem dX12_execute_121 : decode cX12_execute 121 = .ok (.bipush 6, 2) := by decide +kernel
theorem dX12_execute_123 : decode cX12_execute 123 = .ok (.aload_n 0, 1) := by decide +kernel
theorem dX12_execute_124 : decode cX12_execute 124 = .ok (.getfield 222, 3) := by decide +kernel
theorem dX12_execute_127 : decode cX12_execute 127 = .ok (.invokevirtual 208, 3) := by decide +kernel
theorem dX12_execute_130 : decode cX12_execute 130 = .ok (.return_, 1) := by decide +kernel
theorem dX12_move_0 : decode cX12_move 0 = .ok (.iload_n 1, 1) := by decide +kernel
theorem dX12_move_1 : decode cX12_move 1 = .ok (.tableswitch 208 1 9 #[51, 59, 68, 76, 102, 144, 171, 184, 196], 51) := by decide +kernel
theorem dX12_move_52 : decode cX12_move 52 = .ok (.aload_n 0, 1) := by decide +kernel
theorem dX12_move_53 : decode cX12_move 53 = .ok (.iconst 0, 1) := by decide +kernel
theorem dX12_move_54 : decode cX12_move 54 = .ok (.invokevirtual 247, 3) := by decide +kernel
theorem dX12_move_57 : decode cX12_move 57 = .ok (.goto 152, 3) := by decide +kernel
theorem dX12_move_60 : decode cX12_move 60 = .ok (.aload_n 0, 1) := by decide +kernel
theorem dX12_move_61 : decode cX12_move 61 = .ok (.bipush 8, 2) := by decide +kernel
theorem dX12_move_63 : decode cX12_move 63 = .ok (.invokevirtual 271, 3) := by decide +kernel
theorem dX12_move_66 : decode cX12_move 66 = .ok (.goto 143, 3) := by decide +kernel
theorem dX12_move_69 : decode cX12_move 69 = .ok (.aload_n 0, 1) := by decide +kernel
theorem dX12_move_70 : decode cX12_move 70 = .ok (.iconst (-1), 1) := by decide +kernel
theorem dX12_move_71 : decode cX12_move 71 = .ok (.invokevirtual 247, 3) := by decide +kernel
theorem dX12_move_74 : decode cX12_move 74 = .ok (.goto 135, 3) := by decide +kernel
theorem dX12_move_77 : decode cX12_move 77 = .ok (.aload_n 0, 1) := by decide +kernel
theorem dX12_move_78 : decode cX12_move 78 = .ok (.aload_n 0, 1) := by decide +kernel
theorem dX12_move_79 : decode cX12_move 79 = .ok (.getfield 81, 3) := by decide +kernel
theorem dX12_move_82 : decode cX12_move 82 = .ok (.iload_n 2, 1) := by decide +kernel
theorem dX12_move_83 : decode cX12_move 83 = .ok (.iaload, 1) := by decide +kernel
theorem dX12_move_84 : decode cX12_move 84 = .ok (.ifCond .ne 7, 3) := by decide +kernel
theorem dX12_move_87 : decode cX12_move 87 = .ok (.iconst 1, 1) := by decide +kernel
theorem dX12_move_88 : decode cX12_move 88 = .ok (.goto 4, 3) := by decide +kernel
theorem dX12_move_91 : decode cX12_move 91 = .ok (.iconst 0, 1) := by decide +kernel
theorem dX12_move_92 : decode cX12_move 92 = .ok (.invokevirtual 274, 3) := by decide +kernel
theorem dX12_move_95 : decode cX12_move 95 = .ok (.aload_n 0, 1) := by decide +kernel
theorem dX12_move_96 : decode cX12_move 96 = .ok (.iconst 0, 1) := by decide +kernel
theorem dX12_move_97 : decode cX12_move 97 = .ok (.invokevirtual 247, 3) := by decide +kernel
theorem dX12_move_100 : decode cX12_move 100 = .ok (.goto 109, 3) := by decide +kernel
theorem dX12_move_103 : decode cX12_move 103 = .ok (.aload_n 0, 1) := by decide +kernel
theorem dX12_move_104 : decode cX12_move 104 = .ok (.aload_n 0, 1) := by decide +kernel
theorem dX12_move_105 : decode cX12_move 105 = .ok (.getfield 81, 3) := by decide +kernel
theorem dX12_move_108 : decode cX12_move 108 = .ok (.iload_n 2, 1) := by decide +kernel
theorem dX12_move_109 : decode cX12_move 109 = .ok (.iaload, 1) := by decide +kernel
theorem dX12_move_110 : decode cX12_move 110 = .ok (.bipush 8, 2) := by decide +kernel
theorem dX12_move_112 : decode cX12_move 112 = .ok (.if_icmp .ne 20, 3) := by decide +kernel
theorem dX12_move_115 : decode cX12_move 115 = .ok (.aload_n 0, 1) := by decide +kernel
theorem dX12_move_116 : decode cX12_move 116 = .ok (.getfield 81, 3) := by decide +kernel
theorem dX12_move_119 : decode cX12_move 119 = .ok (.iload_n 2, 1) := by decide +kernel
theorem dX12_move_120 : decode cX12_move 120 = .ok (.iconst 1, 1) := by decide +kernel
theorem dX12_move_121 : decode cX12_move 121 = .ok (.iadd, 1) := by decide +kernel
theorem dX12_move_122 : decode cX12_move 122 = .ok (.iaload, 1) := by decide +kernel
theorem dX12_move_123 : decode cX12_move 123 = .ok (.bipush (-3), 2) := by decide +kernel
theorem dX12_move_125 : decode cX12_move 125 = .ok (.if_icmp .ne 7, 3) := by decide +kernel
theorem dX12_move_128 : decode cX12_move 128 = .ok (.iconst 1, 1) := by decide +kernel
theorem dX12_move_129 : decode cX12_move 129 = .ok (.goto 4, 3) := by decide +kernel
theorem dX12_move_132 : decode cX12_move 132 = .ok (.iconst 0, 1) := by decide +kernel
theorem dX12_move_133 : decode cX12_move 133 = .ok (.invokevirtual 274, 3) := by decide +kernel
theorem dX12_move_136 : decode cX12_move 136 = .ok (.aload_n 0, 1) := by decide +kernel
theorem dX12_move_137 : decode cX12_move 137 = .ok (.bipush 8, 2) := by decide +kernel
theorem dX12_move_139 : decode cX12_move 139 = .ok (.invokevirtual 271, 3) := by decide +kernel
theorem dX12_move_142 : decode cX12_move 142 = .ok (.goto 67, 3) := by decide +kernel
theorem dX12_move_145 : decode cX12_move 145 = .ok (.aload_n 0, 1) := by decide +kernel
theorem dX12_move_146 : decode cX12_move 146 = .ok (.aload_n 0, 1) := by decide +kernel
theorem dX12_move_147 : decode cX12_move 147 = .ok (.aload_n 0, 1) := by decide +kernel
theorem dX12_move_148 : decode cX12_move 148 = .ok (.getfield 81, 3) := by decide +kernel
theorem dX12_move_151 : decode cX12_move 151 = .ok (.iload_n 2, 1) := by decide +kernel
theorem dX12_move_152 : decode cX12_move 152 = .ok (.iaload, 1) := by decide +kernel
theorem dX12_move_153 : decode cX12_move 153 = .ok (.invokevirtual 238, 3) := by decide +kernel
theorem dX12_move_156 : decode cX12_move 156 = .ok (.invokevirtual 274, 3) := by decide +kernel
theorem dX12_move_159 : decode cX12_move 159 = .ok (.aload_n 0, 1) := by decide +kernel
theorem dX12_move_160 : decode cX12_move 160 = .ok (.aload_n 0, 1) := by decide +kernel
theorem dX12_move_161 : decode cX12_move 161 = .ok (.getfield 81, 3) := by decide +kernel
theorem dX12_move_164 : decode cX12_move 164 = .ok (.iload_n 2, 1) := by decide +kernel
theorem dX12_move_165 : decode cX12_move 165 = .ok (.iaload, 1) := by decide +kernel
theorem dX12_move_166 : decode cX12_move 166 = .ok (.invokevirtual 247, 3) := by decide +kernel
theorem dX12_move_169 : decode cX12_move 169 = .ok (.goto 40, 3) := by decide +kernel
theorem dX12_move_172 : decode cX12_move 172 = .ok (.aload_n 0, 1) := by decide +kernel
theorem dX12_move_173 : decode cX12_move 173 = .ok (.invokevirtual 277, 3) := by decide +kernel
theorem dX12_move_176 : decode cX12_move 176 = .ok (.aload_n 0, 1) := by decide +kernel
theorem dX12_move_177 : decode cX12_move 177 = .ok (.iload_n 2, 1) := by decide +kernel
theorem dX12_move_178 : decode cX12_move 178 = .ok (.iconst 0, 1) := by decide +kernel
theorem dX12_move_179 : decode cX12_move 179 = .ok (.invokevirtual 250, 3) := by decide +kernel
theorem dX12_move_182 : decode cX12_move 182 = .ok (.goto 27, 3) := by decide +kernel
theorem dX12_move_185 : decode cX12_move 185 = .ok (.aload_n 0, 1) := by decide +kernel
theorem dX12_move_186 : decode cX12_move 186 = .ok (.invokevirtual 241, 3) := by decide +kernel
theorem dX12_move_189 : decode cX12_move 189 = .ok (.aload_n 0, 1) := by decide +kernel
theorem dX12_move_190 : decode cX12_move 190 = .ok (.iload_n 2, 1) := by decide +kernel
theorem dX12_move_191 : decode cX12_move 191 = .ok (.invokevirtual 280, 3) := by decide +kernel
theorem dX12_move_194 : decode cX12_move 194 = .ok (.goto 15, 3) := by decide +kernel
theorem dX12_move_197 : decode cX12_move 197 = .ok (.aload_n 0, 1) := by decide +kernel
theorem dX12_move_198 : decode cX12_move 198 = .ok (.iload_n 2, 1) := by decide +kernel
theorem dX12_move_199 : decode cX12_move 199 = .ok (.aload_n 0, 1) := by decide +kernel
theorem dX12_move_200 : decode cX12_move 200 = .ok (.invokevirtual 283, 3) := by decide +kernel
theorem dX12_move_203 : decode cX12_move 203 = .ok (.invokevirtual 250, 3) := by decide +kernel
theorem dX12_move_206 : decode cX12_move 206 = .ok (.goto 3, 3) := by decide +kernel
theorem dX12_move_209 : decode cX12_move 209 = .ok (.return_, 1) := by decide +kernel
theorem dX12_shuffle_0 : decode cX12_shuffle 0 = .ok (.iload_n 1, 1) := by decide +kernel
theorem dX12_shuffle_1 : decode cX12_shuffle 1 = .ok (.bipush 11, 2) := by decide +kernel
theorem dX12_shuffle_3 : decode cX12_shuffle 3 = .ok (.if_icmp .eq 9, 3) := by decide +kernel
theorem dX12_shuffle_6 : decode cX12_shuffle 6 = .ok (.iload_n 1, 1) := by decide +kernel
theorem dX12_shuffle_7 : decode cX12_shuffle 7 = .ok (.bipush 14, 2) := by decide +kernel
theorem dX12_shuffle_9 : decode cX12_shuffle 9 = .ok (.if_icmp .ne 130, 3) := by decide +kernel
theorem dX12_shuffle_12 : decode cX12_shuffle 12 = .ok (.aload_n 0, 1) := by decide +kernel
theorem dX12_shuffle_13 : decode cX12_shuffle 13 = .ok (.iconst 2, 1) := by decide +kernel
theorem dX12_shuffle_14 : decode cX12_shuffle 14 = .ok (.invokevirtual 225, 3) := by decide +kernel
theorem dX12_shuffle_17 : decode cX12_shuffle 17 = .ok (.ifCond .eq 70, 3) := by decide +kernel
theorem dX12_shuffle_20 : decode cX12_shuffle 20 = .ok (.aload_n 0, 1) := by decide +kernel
theorem dX12_shuffle_21 : decode cX12_shuffle 21 = .ok (.aload_n 0, 1) := by decide +kernel
theorem dX12_shuffle_22 : decode cX12_shuffle 22 = .ok (.iconst 0, 1) := by decide +kernel
theorem dX12_shuffle_23 : decode cX12_shuffle 23 = .ok (.invokevirtual 228, 3) := by decide +kernel
theorem dX12_shuffle_26 : decode cX12_shuffle 26 = .ok (.bipush (-3), 2) := by decide +kernel
theorem dX12_shuffle_28 : decode cX12_shuffle 28 = .ok (.if_icmp .ne 21, 3) := by decide +kernel
theorem dX12_shuffle_31 : decode cX12_shuffle 31 = .ok (.aload_n 0, 1) := by decide +kernel
theorem dX12_shuffle_32 : decode cX12_shuffle 32 = .ok (.iconst 1, 1) := by decide +kernel
theorem dX12_shuffle_33 : decode cX12_shuffle 33 = .ok (.invokevirtual 228, 3) := by decide +kernel
theorem dX12_shuffle_36 : decode cX12_shuffle 36 = .ok (.bipush 8, 2) := by decide +kernel
theorem dX12_shuffle_38 : decode cX12_shuffle 38 = .ok (.if_icmp .ne 7, 3) := by decide +kernel
theorem dX12_shuffle_41 : decode cX12_shuffle 41 = .ok (.iconst 1, 1) := by decide +kernel
theorem dX12_shuffle_42 : decode cX12_shuffle 42 = .ok (.goto 42, 3) := by decide +kernel
theorem dX12_shuffle_45 : decode cX12_shuffle 45 = .ok (.iconst 0, 1) := by decide +kernel
theorem dX12_shuffle_46 : decode cX12_shuffle 46 = .ok (.goto 38, 3) := by decide +kernel
theorem dX12_shuffle_49 : decode cX12_shuffle 49 = .ok (.aload_n 0, 1) := by decide +kernel
theorem dX12_shuffle_50 : decode cX12_shuffle 50 = .ok (.iconst 0, 1) := by decide +kernel
theorem dX12_shuffle_51 : decode cX12_shuffle 51 = .ok (.invokevirtual 228, 3) := by decide +kernel
theorem dX12_shuffle_54 : decode cX12_shuffle 54 = .ok (.bipush 8, 2) := by decide +kernel
theorem dX12_shuffle_56 : decode cX12_shuffle 56 = .ok (.if_icmp .eq 27, 3) := by decide +kernel
theorem dX12_shuffle_59 : decode cX12_shuffle 59 = .ok (.aload_n 0, 1) := by decide +kernel
theorem dX12_shuffle_60 : decode cX12_shuffle 60 = .ok (.iconst 1, 1) := by decide +kernel
theorem dX12_shuffle_61 : decode cX12_shuffle 61 = .ok (.invokevirtual 228, 3) := by decide +kernel
theorem dX12_shuffle_64 : decode cX12_shuffle 64 = .ok (.bipush (-3), 2) := by decide +kernel
theorem dX12_shuffle_66 : decode cX12_shuffle 66 = .ok (.if_icmp .eq 17, 3) := by decide +kernel
theorem dX12_shuffle_69 : decode cX12_shuffle 69 = .ok (.aload_n 0, 1) := by decide +kernel
theorem dX12_shuffle_70 : decode cX12_shuffle 70 = .ok (.iconst 1, 1) := by decide +kernel
theorem dX12_shuffle_71 : decode cX12_shuffle 71 = .ok (.invokevirtual 228, 3) := by decide +kernel
theorem dX12_shuffle_74 : decode cX12_shuffle 74 = .ok (.bipush 8, 2) := by decide +kernel
theorem dX12_shuffle_76 : decode cX12_shuffle 76 = .ok (.if_icmp .eq 7, 3) := by decide +kernel
theorem dX12_shuffle_79 : decode cX12_shuffle 79 = .ok (.iconst 1, 1) := by decide +kernel
theorem dX12_shuffle_80 : decode cX12_shuffle 80 = .ok (.goto 4, 3) := by decide +kernel
theorem dX12_shuffle_83 : decode cX12_shuffle 83 = .ok (.iconst 0, 1) := by decide +kernel
theorem dX12_shuffle_84 : decode cX12_shuffle 84 = .ok (.invokevirtual 231, 3) := by decide +kernel
theorem dX12_shuffle_87 : decode cX12_shuffle 87 = .ok (.aload_n 0, 1) := by decide +kernel
theorem dX12_shuffle_88 : decode cX12_shuffle 88 = .ok (.invokevirtual 218, 3) := by decide +kernel
theorem dX12_shuffle_91 : decode cX12_shuffle 91 = .ok (.ifCond .ne 4, 3) := by decide +kernel
theorem dX12_shuffle_94 : decode cX12_shuffle 94 = .ok (.return_, 1) := by decide +kernel
theorem dX12_shuffle_95 : decode cX12_shuffle 95 = .ok (.aload_n 0, 1) := by decide +kernel
theorem dX12_shuffle_96 : decode cX12_shuffle 96 = .ok (.iconst 0, 1) := by decide +kernel
theorem dX12_shuffle_97 : decode cX12_shuffle 97 = .ok (.invokevirtual 228, 3) := by decide +kernel
theorem dX12_shuffle_100 : decode cX12_shuffle 100 = .ok (.istore_n 2, 1) := by decide +kernel
theorem dX12_shuffle_101 : decode cX12_shuffle 101 = .ok (.aload_n 0, 1) := by decide +kernel
theorem dX12_shuffle_102 : decode cX12_shuffle 102 = .ok (.iconst 2, 1) := by decide +kernel
theorem dX12_shuffle_103 : decode cX12_shuffle 103 = .ok (.invokevirtual 235, 3) := by decide +kernel
theorem dX12_shuffle_106 : decode cX12_shuffle 106 = .ok (.istore_n 3, 1) := by decide +kernel
theorem dX12_shuffle_107 : decode cX12_shuffle 107 = .ok (.iconst 0, 1) := by decide +kernel
theorem dX12_shuffle_108 : decode cX12_shuffle 108 = .ok (.istore 4, 2) := by decide +kernel
theorem dX12_shuffle_110 : decode cX12_shuffle 110 = .ok (.iload 4, 2) := by decide +kernel
theorem dX12_shuffle_112 : decode cX12_shuffle 112 = .ok (.iconst 2, 1) := by decide +kernel
theorem dX12_shuffle_113 : decode cX12_shuffle 113 = .ok (.if_icmp .ge 25, 3) := by decide +kernel
theorem dX12_shuffle_116 : decode cX12_shuffle 116 = .ok (.iload_n 1, 1) := by decide +kernel
theorem dX12_shuffle_117 : decode cX12_shuffle 117 = .ok (.bipush 14, 2) := by decide +kernel
theorem dX12_shuffle_119 : decode cX12_shuffle 119 = .ok (.if_icmp .ne 19, 3) := by decide +kernel
theorem dX12_shuffle_122 : decode cX12_shuffle 122 = .ok (.aload_n 0, 1) := by decide +kernel
theorem dX12_shuffle_123 : decode cX12_shuffle 123 = .ok (.iload_n 3, 1) := by decide +kernel
theorem dX12_shuffle_124 : decode cX12_shuffle 124 = .ok (.invokevirtual 247, 3) := by decide +kernel
theorem dX12_shuffle_127 : decode cX12_shuffle 127 = .ok (.aload_n 0, 1) := by decide +kernel
theorem dX12_shuffle_128 : decode cX12_shuffle 128 = .ok (.iload_n 2, 1) := by decide +kernel
theorem dX12_shuffle_129 : decode cX12_shuffle 129 = .ok (.invokevirtual 247, 3) := by decide +kernel
theorem dX12_shuffle_132 : decode cX12_shuffle 132 = .ok (.iinc 4 1, 3) := by decide +kernel
theorem dX12_shuffle_135 : decode cX12_shuffle 135 = .ok (.goto (-25), 3) := by decide +kernel
theorem dX12_shuffle_138 : decode cX12_shuffle 138 = .ok (.return_, 1) := by decide +kernel
theorem dX12_shuffle_139 : decode cX12_shuffle 139 = .ok (.aload_n 0, 1) := by decide +kernel
theorem dX12_shuffle_140 : decode cX12_shuffle 140 = .ok (.invokevirtual 286, 3) := by decide +kernel
theorem dX12_shuffle_143 : decode cX12_shuffle 143 = .ok (.istore_n 2, 1) := by decide +kernel
theorem dX12_shuffle_144 : decode cX12_shuffle 144 = .ok (.iload_n 1, 1) := by decide +kernel
theorem dX12_shuffle_145 : decode cX12_shuffle 145 = .ok (.bipush 13, 2) := by decide +kernel
theorem dX12_shuffle_147 : decode cX12_shuffle 147 = .ok (.if_icmp .eq 9, 3) := by decide +kernel
theorem dX12_shuffle_150 : decode cX12_shuffle 150 = .ok (.iload_n 1, 1) := by decide +kernel
theorem dX12_shuffle_151 : decode cX12_shuffle 151 = .ok (.bipush 15, 2) := by decide +kernel
theorem dX12_shuffle_153 : decode cX12_shuffle 153 = .ok (.if_icmp .ne 10, 3) := by decide +kernel
theorem dX12_shuffle_156 : decode cX12_shuffle 156 = .ok (.aload_n 0, 1) := by decide +kernel
theorem dX12_shuffle_157 : decode cX12_shuffle 157 = .ok (.invokevirtual 286, 3) := by decide +kernel
theorem dX12_shuffle_160 : decode cX12_shuffle 160 = .ok (.goto 4, 3) := by decide +kernel
theorem dX12_shuffle_163 : decode cX12_shuffle 163 = .ok (.iload_n 2, 1) := by decide +kernel
theorem dX12_shuffle_164 : decode cX12_shuffle 164 = .ok (.istore_n 3, 1) := by decide +kernel
theorem dX12_shuffle_165 : decode cX12_shuffle 165 = .ok (.iload_n 1, 1) := by decide +kernel
theorem dX12_shuffle_166 : decode cX12_shuffle 166 = .ok (.bipush 12, 2) := by decide +kernel
theorem dX12_shuffle_168 : decode cX12_shuffle 168 = .ok (.if_icmp .ne 8, 3) := by decide +kernel
theorem dX12_shuffle_171 : decode cX12_shuffle 171 = .ok (.aload_n 0, 1) := by decide +kernel
theorem dX12_shuffle_172 : decode cX12_shuffle 172 = .ok (.iload_n 2, 1) := by decide +kernel
theorem dX12_shuffle_173 : decode cX12_shuffle 173 = .ok (.invokevirtual 247, 3) := by decide +kernel
theorem dX12_shuffle_176 : decode cX12_shuffle 176 = .ok (.iload_n 1, 1) := by decide +kernel
theorem dX12_shuffle_177 : decode cX12_shuffle 177 = .ok (.bipush 12, 2) := by decide +kernel
theorem dX12_shuffle_179 : decode cX12_shuffle 179 = .ok (.if_icmp .eq 15, 3) := by decide +kernel
theorem dX12_shuffle_182 : decode cX12_shuffle 182 = .ok (.iload_n 1, 1) := by decide +kernel
theorem dX12_shuffle_183 : decode cX12_shuffle 183 = .ok (.bipush 13, 2) := by decide +kernel
theorem dX12_shuffle_185 : decode cX12_shuffle 185 = .ok (.if_icmp .eq 9, 3) := by decide +kernel
theorem dX12_shuffle_188 : decode cX12_shuffle 188 = .ok (.iload_n 1, 1) := by decide +kernel
theorem dX12_shuffle_189 : decode cX12_shuffle 189 = .ok (.bipush 15, 2) := by decide +kernel
theorem dX12_shuffle_191 : decode cX12_shuffle 191 = .ok (.if_icmp .ne 8, 3) := by decide +kernel
theorem dX12_shuffle_194 : decode cX12_shuffle 194 = .ok (.aload_n 0, 1) := by decide +kernel
theorem dX12_shuffle_195 : decode cX12_shuffle 195 = .ok (.iload_n 2, 1) := by decide +kernel
theorem dX12_shuffle_196 : decode cX12_shuffle 196 = .ok (.invokevirtual 247, 3) := by decide +kernel
theorem dX12_shuffle_199 : decode cX12_shuffle 199 = .ok (.iload_n 1, 1) := by decide +kernel
theorem dX12_shuffle_200 : decode cX12_shuffle 200 = .ok (.bipush 13, 2) := by decide +kernel
theorem dX12_shuffle_202 : decode cX12_shuffle 202 = .ok (.if_icmp .eq 9, 3) := by decide +kernel
theorem dX12_shuffle_205 : decode cX12_shuffle 205 = .ok (.iload_n 1, 1) := by decide +kernel
theorem dX12_shuffle_206 : decode cX12_shuffle 206 = .ok (.bipush 15, 2) := by decide +kernel
theorem dX12_shuffle_208 : decode cX12_shuffle 208 = .ok (.if_icmp .ne 8, 3) := by decide +kernel
theorem dX12_shuffle_211 : decode cX12_shuffle 211 = .ok (.aload_n 0, 1) := by decide +kernel
theorem dX12_shuffle_212 : decode cX12_shuffle 212 = .ok (.iload_n 3, 1) := by decide +kernel
theorem dX12_shuffle_213 : decode cX12_shuffle 213 = .ok (.invokevirtual 247, 3) := by decide +kernel
theorem dX12_shuffle_216 : decode cX12_shuffle 216 = .ok (.iload_n 1, 1) := by decide +kernel
theorem dX12_shuffle_217 : decode cX12_shuffle 217 = .ok (.bipush 13, 2) := by decide +kernel
theorem dX12_shuffle_219 : decode cX12_shuffle 219 = .ok (.if_icmp .ne 8, 3) := by decide +kernel
theorem dX12_shuffle_222 : decode cX12_shuffle 222 = .ok (.aload_n 0, 1) := by decide +kernel
theorem dX12_shuffle_223 : decode cX12_shuffle 223 = .ok (.iload_n 2, 1) := by decide +kernel
theorem dX12_shuffle_224 : decode cX12_shuffle 224 = .ok (.invokevirtual 247, 3) := by decide +kernel
theorem dX12_shuffle_227 : decode cX12_shuffle 227 = .ok (.return_, 1) := by decide +kernel
theorem dX12_compute_0 : decode cX12_compute 0 = .ok (.iload_n 1, 1) := by decide +kernel
theorem dX12_compute_1 : decode cX12_compute 1 = .ok (.tableswitch 193 16 26 #[59, 75, 92, 105, 117, 133, 193, 154, 161, 172, 180], 59) := by decide +kernel
theorem dX12_compute_60 : decode cX12_compute 60 = .ok (.aload_n 0, 1) := by decide +kernel
theorem dX12_compute_61 : decode cX12_compute 61 = .ok (.invokevirtual 277, 3) := by decide +kernel
theorem dX12_compute_64 : decode cX12_compute 64 = .ok (.aload_n 0, 1) := by decide +kernel
theorem dX12_compute_65 : decode cX12_compute 65 = .ok (.invokevirtual 277, 3) := by decide +kernel
theorem dX12_compute_68 : decode cX12_compute 68 = .ok (.aload_n 0, 1) := by decide +kernel
theorem dX12_compute_69 : decode cX12_compute 69 = .ok (.iconst 0, 1) := by decide +kernel
theorem dX12_compute_70 : decode cX12_compute 70 = .ok (.invokevirtual 247, 3) := by decide +kernel
theorem dX12_compute_73 : decode cX12_compute 73 = .ok (.goto 121, 3) := by decide +kernel
theorem dX12_compute_76 : decode cX12_compute 76 = .ok (.aload_n 0, 1) := by decide +kernel
theorem dX12_compute_77 : decode cX12_compute 77 = .ok (.invokevirtual 241, 3) := by decide +kernel
theorem dX12_compute_80 : decode cX12_compute 80 = .ok (.aload_n 0, 1) := by decide +kernel
theorem dX12_compute_81 : decode cX12_compute 81 = .ok (.invokevirtual 241, 3) := by decide +kernel
theorem dX12_compute_84 : decode cX12_compute 84 = .ok (.aload_n 0, 1) := by decide +kernel
theorem dX12_compute_85 : decode cX12_compute 85 = .ok (.bipush 8, 2) := by decide +kernel
theorem dX12_compute_87 : decode cX12_compute 87 = .ok (.invokevirtual 271, 3) := by decide +kernel
theorem dX12_compute_90 : decode cX12_compute 90 = .ok (.goto 104, 3) := by decide +kernel
theorem dX12_compute_93 : decode cX12_compute 93 = .ok (.aload_n 0, 1) := by decide +kernel
theorem dX12_compute_94 : decode cX12_compute 94 = .ok (.invokevirtual 277, 3) := by decide +kernel
theorem dX12_compute_97 : decode cX12_compute 97 = .ok (.aload_n 0, 1) := by decide +kernel
theorem dX12_compute_98 : decode cX12_compute 98 = .ok (.bipush 8, 2) := by decide +kernel
theorem dX12_compute_100 : decode cX12_compute 100 = .ok (.invokevirtual 271, 3) := by decide +kernel
theorem dX12_compute_103 : decode cX12_compute 103 = .ok (.goto 91, 3) := by decide +kernel
theorem dX12_compute_106 : decode cX12_compute 106 = .ok (.aload_n 0, 1) := by decide +kernel
theorem dX12_compute_107 : decode cX12_compute 107 = .ok (.invokevirtual 241, 3) := by decide +kernel
theorem dX12_compute_110 : decode cX12_compute 110 = .ok (.aload_n 0, 1) := by decide +kernel
theorem dX12_compute_111 : decode cX12_compute 111 = .ok (.iconst 0, 1) := by decide +kernel
theorem dX12_compute_112 : decode cX12_compute 112 = .ok (.invokevirtual 247, 3) := by decide +kernel
theorem dX12_compute_115 : decode cX12_compute 115 = .ok (.goto 79, 3) := by decide +kernel
theorem dX12_compute_118 : decode cX12_compute 118 = .ok (.aload_n 0, 1) := by decide +kernel
theorem dX12_compute_119 : decode cX12_compute 119 = .ok (.invokevirtual 241, 3) := by decide +kernel
theorem dX12_compute_122 : decode cX12_compute 122 = .ok (.aload_n 0, 1) := by decide +kernel
theorem dX12_compute_123 : decode cX12_compute 123 = .ok (.invokevirtual 241, 3) := by decide +kernel
theorem dX12_compute_126 : decode cX12_compute 126 = .ok (.aload_n 0, 1) := by decide +kernel
theorem dX12_compute_127 : decode cX12_compute 127 = .ok (.iconst 0, 1) := by decide +kernel
theorem dX12_compute_128 : decode cX12_compute 128 = .ok (.invokevirtual 247, 3) := by decide +kernel
theorem dX12_compute_131 : decode cX12_compute 131 = .ok (.goto 63, 3) := by decide +kernel
theorem dX12_compute_134 : decode cX12_compute 134 = .ok (.aload_n 0, 1) := by decide +kernel
theorem dX12_compute_135 : decode cX12_compute 135 = .ok (.aload_n 0, 1) := by decide +kernel
theorem dX12_compute_136 : decode cX12_compute 136 = .ok (.getfield 81, 3) := by decide +kernel
theorem dX12_compute_139 : decode cX12_compute 139 = .ok (.iload_n 2, 1) := by decide +kernel
theorem dX12_compute_140 : decode cX12_compute 140 = .ok (.iaload, 1) := by decide +kernel
theorem dX12_compute_141 : decode cX12_compute 141 = .ok (.ifCond .ne 7, 3) := by decide +kernel
theorem dX12_compute_144 : decode cX12_compute 144 = .ok (.iconst 1, 1) := by decide +kernel
theorem dX12_compute_145 : decode cX12_compute 145 = .ok (.goto 4, 3) := by decide +kernel
theorem dX12_compute_148 : decode cX12_compute 148 = .ok (.iconst 0, 1) := by decide +kernel
theorem dX12_compute_149 : decode cX12_compute 149 = .ok (.invokevirtual 274, 3) := by decide +kernel
theorem dX12_compute_152 : decode cX12_compute 152 = .ok (.goto 42, 3) := by decide +kernel
theorem dX12_compute_155 : decode cX12_compute 155 = .ok (.aload_n 0, 1) := by decide +kernel
theorem dX12_compute_156 : decode cX12_compute 156 = .ok (.invokevirtual 277, 3) := by decide +kernel
theorem dX12_compute_159 : decode cX12_compute 159 = .ok (.goto 35, 3) := by decide +kernel
theorem dX12_compute_162 : decode cX12_compute 162 = .ok (.aload_n 0, 1) := by decide +kernel
theorem dX12_compute_163 : decode cX12_compute 163 = .ok (.invokevirtual 277, 3) := by decide +kernel
theorem dX12_compute_166 : decode cX12_compute 166 = .ok (.aload_n 0, 1) := by decide +kernel
theorem dX12_compute_167 : decode cX12_compute 167 = .ok (.invokevirtual 277, 3) := by decide +kernel
theorem dX12_compute_170 : decode cX12_compute 170 = .ok (.goto 24, 3) := by decide +kernel
theorem dX12_compute_173 : decode cX12_compute 173 = .ok (.aload_n 0, 1) := by decide +kernel
theorem dX12_compute_174 : decode cX12_compute 174 = .ok (.invokevirtual 283, 3) := by decide +kernel
theorem dX12_compute_177 : decode cX12_compute 177 = .ok (.pop, 1) := by decide +kernel
theorem dX12_compute_178 : decode cX12_compute 178 = .ok (.goto 16, 3) := by decide +kernel
theorem dX12_compute_181 : decode cX12_compute 181 = .ok (.aload_n 0, 1) := by decide +kernel
theorem dX12_compute_182 : decode cX12_compute 182 = .ok (.invokevirtual 283, 3) := by decide +kernel
theorem dX12_compute_185 : decode cX12_compute 185 = .ok (.pop, 1) := by decide +kernel
theorem dX12_compute_186 : decode cX12_compute 186 = .ok (.aload_n 0, 1) := by decide +kernel
theorem dX12_compute_187 : decode cX12_compute 187 = .ok (.invokevirtual 283, 3) := by decide +kernel
theorem dX12_compute_190 : decode cX12_compute 190 = .ok (.pop, 1) := by decide +kernel
theorem dX12_compute_191 : decode cX12_compute 191 = .ok (.goto 3, 3) := by decide +kernel
theorem dX12_compute_194 : decode cX12_compute 194 = .ok (.return_, 1) := by decide +kernel
theorem dX12_leave_0 : decode cX12_leave 0 = .ok (.aload_n 0, 1) := by decide +kernel
theorem dX12_leave_1 : decode cX12_leave 1 = .ok (.getfield 33, 3) := by decide +kernel
theorem dX12_leave_4 : decode cX12_leave 4 = .ok (.aload_n 0, 1) := by decide +kernel
theorem dX12_leave_5 : decode cX12_leave 5 = .ok (.getfield 156, 3) := by decide +kernel
theorem dX12_leave_8 : decode cX12_leave 8 = .ok (.iaload, 1) := by decide +kernel
theorem dX12_leave_9 : decode cX12_leave 9 = .ok (.istore_n 2, 1) := by decide +kernel
theorem dX12_leave_10 : decode cX12_leave 10 = .ok (.iload_n 1, 1) := by decide +kernel
theorem dX12_leave_11 : decode cX12_leave 11 = .ok (.bipush 31, 2) := by decide +kernel
theorem dX12_leave_13 : decode cX12_leave 13 = .ok (.if_icmp .ne 11, 3) := by decide +kernel
theorem dX12_leave_16 : decode cX12_leave 16 = .ok (.aload_n 0, 1) := by decide +kernel
theorem dX12_leave_17 : decode cX12_leave 17 = .ok (.invokevirtual 289, 3) := by decide +kernel
theorem dX12_leave_20 : decode cX12_leave 20 = .ok (.pop, 1) := by decide +kernel
theorem dX12_leave_21 : decode cX12_leave 21 = .ok (.goto 126, 3) := by decide +kernel
theorem dX12_leave_24 : decode cX12_leave 24 = .ok (.iload_n 1, 1) := by decide +kernel
theorem dX12_leave_25 : decode cX12_leave 25 = .ok (.bipush 27, 2) := by decide +kernel
theorem dX12_leave_27 : decode cX12_leave 27 = .ok (.if_icmp .ne 24, 3) := by decide +kernel
theorem dX12_leave_30 : decode cX12_leave 30 = .ok (.aload_n 0, 1) := by decide +kernel
theorem dX12_leave_31 : decode cX12_leave 31 = .ok (.invokevirtual 277, 3) := by decide +kernel
theorem dX12_leave_34 : decode cX12_leave 34 = .ok (.iload_n 2, 1) := by decide +kernel
theorem dX12_leave_35 : decode cX12_leave 35 = .ok (.ifCond .eq 112, 3) := by decide +kernel
theorem dX12_leave_38 : decode cX12_leave 38 = .ok (.aload_n 0, 1) := by decide +kernel
theorem dX12_leave_39 : decode cX12_leave 39 = .ok (.bipush 9, 2) := by decide +kernel
theorem dX12_leave_41 : decode cX12_leave 41 = .ok (.aload_n 0, 1) := by decide +kernel
theorem dX12_leave_42 : decode cX12_leave 42 = .ok (.getfield 222, 3) := by decide +kernel
theorem dX12_leave_45 : decode cX12_leave 45 = .ok (.invokevirtual 208, 3) := by decide +kernel
theorem dX12_leave_48 : decode cX12_leave 48 = .ok (.goto 99, 3) := by decide +kernel
theorem dX12_leave_51 : decode cX12_leave 51 = .ok (.iload_n 1, 1) := by decide +kernel
theorem dX12_leave_52 : decode cX12_leave 52 = .ok (.bipush 28, 2) := by decide +kernel
theorem dX12_leave_54 : decode cX12_leave 54 = .ok (.if_icmp .ne 26, 3) := by decide +kernel
theorem dX12_leave_57 : decode cX12_leave 57 = .ok (.aload_n 0, 1) := by decide +kernel
theorem dX12_leave_58 : decode cX12_leave 58 = .ok (.invokevirtual 241, 3) := by decide +kernel
theorem dX12_leave_61 : decode cX12_leave 61 = .ok (.iload_n 2, 1) := by decide +kernel
theorem dX12_leave_62 : decode cX12_leave 62 = .ok (.bipush 8, 2) := by decide +kernel
theorem dX12_leave_64 : decode cX12_leave 64 = .ok (.if_icmp .eq 83, 3) := by decide +kernel
theorem dX12_leave_67 : decode cX12_leave 67 = .ok (.aload_n 0, 1) := by decide +kernel
theorem dX12_leave_68 : decode cX12_leave 68 = .ok (.bipush 9, 2) := by decide +kernel
theorem dX12_leave_70 : decode cX12_leave 70 = .ok (.aload_n 0, 1) := by decide +kernel
theorem dX12_leave_71 : decode cX12_leave 71 = .ok (.getfield 222, 3) := by decide +kernel
theorem dX12_leave_74 : decode cX12_leave 74 = .ok (.invokevirtual 208, 3) := by decide +kernel
theorem dX12_leave_77 : decode cX12_leave 77 = .ok (.goto 70, 3) := by decide +kernel
theorem dX12_leave_80 : decode cX12_leave 80 = .ok (.iload_n 1, 1) := by decide +kernel
theorem dX12_leave_81 : decode cX12_leave 81 = .ok (.bipush 29, 2) := by decide +kernel
theorem dX12_leave_83 : decode cX12_leave 83 = .ok (.if_icmp .ne 38, 3) := by decide +kernel
theorem dX12_leave_86 : decode cX12_leave 86 = .ok (.aload_n 0, 1) := by decide +kernel
theorem dX12_leave_87 : decode cX12_leave 87 = .ok (.invokevirtual 289, 3) := by decide +kernel
theorem dX12_leave_90 : decode cX12_leave 90 = .ok (.istore_n 3, 1) := by decide +kernel
theorem dX12_leave_91 : decode cX12_leave 91 = .ok (.aload_n 0, 1) := by decide +kernel
theorem dX12_leave_92 : decode cX12_leave 92 = .ok (.iload_n 2, 1) := by decide +kernel
theorem dX12_leave_93 : decode cX12_leave 93 = .ok (.invokevirtual 100, 3) := by decide +kernel
theorem dX12_leave_96 : decode cX12_leave 96 = .ok (.ifCond .eq 12, 3) := by decide +kernel
theorem dX12_leave_99 : decode cX12_leave 99 = .ok (.aload_n 0, 1) := by decide +kernel
theorem dX12_leave_100 : decode cX12_leave 100 = .ok (.iload_n 3, 1) := by decide +kernel
theorem dX12_leave_101 : decode cX12_leave 101 = .ok (.iload_n 2, 1) := by decide +kernel
theorem dX12_leave_102 : decode cX12_leave 102 = .ok (.invokevirtual 130, 3) := by decide +kernel
theorem dX12_leave_105 : decode cX12_leave 105 = .ok (.ifCond .ne 13, 3) := by decide +kernel
theorem dX12_leave_108 : decode cX12_leave 108 = .ok (.aload_n 0, 1) := by decide +kernel
theorem dX12_leave_109 : decode cX12_leave 109 = .ok (.bipush 9, 2) := by decide +kernel
theorem dX12_leave_111 : decode cX12_leave 111 = .ok (.aload_n 0, 1) := by decide +kernel
theorem dX12_leave_112 : decode cX12_leave 112 = .ok (.getfield 222, 3) := by decide +kernel
theorem dX12_leave_115 : decode cX12_leave 115 = .ok (.invokevirtual 208, 3) := by decide +kernel
theorem dX12_leave_118 : decode cX12_leave 118 = .ok (.goto 29, 3) := by decide +kernel
theorem dX12_leave_121 : decode cX12_leave 121 = .ok (.iload_n 2, 1) := by decide +kernel
theorem dX12_leave_122 : decode cX12_leave 122 = .ok (.iconst (-1), 1) := by decide +kernel
theorem dX12_leave_123 : decode cX12_leave 123 = .ok (.if_icmp .ne 14, 3) := by decide +kernel
theorem dX12_leave_126 : decode cX12_leave 126 = .ok (.aload_n 0, 1) := by decide +kernel
theorem dX12_leave_127 : decode cX12_leave 127 = .ok (.getfield 81, 3) := by decide +kernel
theorem dX12_leave_130 : decode cX12_leave 130 = .ok (.bipush 25, 2) := by decide +kernel
theorem dX12_leave_132 : decode cX12_leave 132 = .ok (.iaload, 1) := by decide +kernel
theorem dX12_leave_133 : decode cX12_leave 133 = .ok (.iconst 1, 1) := by decide +kernel
theorem dX12_leave_134 : decode cX12_leave 134 = .ok (.if_icmp .ne 13, 3) := by decide +kernel
theorem dX12_leave_137 : decode cX12_leave 137 = .ok (.aload_n 0, 1) := by decide +kernel
theorem dX12_leave_138 : decode cX12_leave 138 = .ok (.bipush 9, 2) := by decide +kernel
theorem dX12_leave_140 : decode cX12_leave 140 = .ok (.aload_n 0, 1) := by decide +kernel
theorem dX12_leave_141 : decode cX12_leave 141 = .ok (.getfield 222, 3) := by decide +kernel
theorem dX12_leave_144 : decode cX12_leave 144 = .ok (.invokevirtual 208, 3) := by decide +kernel
theorem dX12_leave_147 : decode cX12_leave 147 = .ok (.return_, 1) := by decide +kernel
theorem dX12_useObject_0 : decode cX12_useObject 0 = .ok (.iload_n 1, 1) := by decide +kernel
theorem dX12_useObject_1 : decode cX12_useObject 1 = .ok (.tableswitch 155 32 35 #[31, 54, 139, 147], 31) := by decide +kernel
theorem dX12_useObject_32 : decode cX12_useObject 32 = .ok (.aload_n 0, 1) := by decide +kernel
theorem dX12_useObject_33 : decode cX12_useObject 33 = .ok (.aload_n 0, 1) := by decide +kernel
theorem dX12_useObject_34 : decode cX12_useObject 34 = .ok (.getfield 21, 3) := by decide +kernel
theorem dX12_useObject_37 : decode cX12_useObject 37 = .ok (.iload_n 2, 1) := by decide +kernel
theorem dX12_useObject_38 : decode cX12_useObject 38 = .ok (.iaload, 1) := by decide +kernel
theorem dX12_useObject_39 : decode cX12_useObject 39 = .ok (.invokevirtual 292, 3) := by decide +kernel
theorem dX12_useObject_42 : decode cX12_useObject 42 = .ok (.aload_n 0, 1) := by decide +kernel
theorem dX12_useObject_43 : decode cX12_useObject 43 = .ok (.aload_n 0, 1) := by decide +kernel
theorem dX12_useObject_44 : decode cX12_useObject 44 = .ok (.getfield 24, 3) := by decide +kernel
theorem dX12_useObject_47 : decode cX12_useObject 47 = .ok (.iload_n 2, 1) := by decide +kernel
theorem dX12_useObject_48 : decode cX12_useObject 48 = .ok (.iaload, 1) := by decide +kernel
theorem dX12_useObject_49 : decode cX12_useObject 49 = .ok (.invokevirtual 271, 3) := by decide +kernel
theorem dX12_useObject_52 : decode cX12_useObject 52 = .ok (.goto 135, 3) := by decide +kernel
theorem dX12_useObject_55 : decode cX12_useObject 55 = .ok (.aload_n 0, 1) := by decide +kernel
theorem dX12_useObject_56 : decode cX12_useObject 56 = .ok (.aload_n 0, 1) := by decide +kernel
theorem dX12_useObject_57 : decode cX12_useObject 57 = .ok (.getfield 24, 3) := by decide +kernel
theorem dX12_useObject_60 : decode cX12_useObject 60 = .ok (.iload_n 2, 1) := by decide +kernel
theorem dX12_useObject_61 : decode cX12_useObject 61 = .ok (.iaload, 1) := by decide +kernel
theorem dX12_useObject_62 : decode cX12_useObject 62 = .ok (.invokevirtual 244, 3) := by decide +kernel
theorem dX12_useObject_65 : decode cX12_useObject 65 = .ok (.aload_n 0, 1) := by decide +kernel
theorem dX12_useObject_66 : decode cX12_useObject 66 = .ok (.iconst 1, 1) := by decide +kernel
theorem dX12_useObject_67 : decode cX12_useObject 67 = .ok (.invokevirtual 225, 3) := by decide +kernel
theorem dX12_useObject_70 : decode cX12_useObject 70 = .ok (.ifCond .eq 61, 3) := by decide +kernel
theorem dX12_useObject_73 : decode cX12_useObject 73 = .ok (.aload_n 0, 1) := by decide +kernel
theorem dX12_useObject_74 : decode cX12_useObject 74 = .ok (.aload_n 0, 1) := by decide +kernel
theorem dX12_useObject_75 : decode cX12_useObject 75 = .ok (.aload_n 0, 1) := by decide +kernel
theorem dX12_useObject_76 : decode cX12_useObject 76 = .ok (.iconst 0, 1) := by decide +kernel
theorem dX12_useObject_77 : decode cX12_useObject 77 = .ok (.invokevirtual 228, 3) := by decide +kernel
theorem dX12_useObject_80 : decode cX12_useObject 80 = .ok (.bipush 8, 2) := by decide +kernel
theorem dX12_useObject_82 : decode cX12_useObject 82 = .ok (.aload_n 0, 1) := by decide +kernel
theorem dX12_useObject_83 : decode cX12_useObject 83 = .ok (.getfield 21, 3) := by decide +kernel
theorem dX12_useObject_86 : decode cX12_useObject 86 = .ok (.iload_n 2, 1) := by decide +kernel
theorem dX12_useObject_87 : decode cX12_useObject 87 = .ok (.iaload, 1) := by decide +kernel
theorem dX12_useObject_88 : decode cX12_useObject 88 = .ok (.imul, 1) := by decide +kernel
theorem dX12_useObject_89 : decode cX12_useObject 89 = .ok (.invokevirtual 130, 3) := by decide +kernel
theorem dX12_useObject_92 : decode cX12_useObject 92 = .ok (.ifCond .ne 31, 3) := by decide +kernel
theorem dX12_useObject_95 : decode cX12_useObject 95 = .ok (.aload_n 0, 1) := by decide +kernel
theorem dX12_useObject_96 : decode cX12_useObject 96 = .ok (.iconst 0, 1) := by decide +kernel
theorem dX12_useObject_97 : decode cX12_useObject 97 = .ok (.invokevirtual 228, 3) := by decide +kernel
theorem dX12_useObject_100 : decode cX12_useObject 100 = .ok (.bipush (-4), 2) := by decide +kernel
theorem dX12_useObject_102 : decode cX12_useObject 102 = .ok (.if_icmp .ne 25, 3) := by decide +kernel
theorem dX12_useObject_105 : decode cX12_useObject 105 = .ok (.aload_n 0, 1) := by decide +kernel
theorem dX12_useObject_106 : decode cX12_useObject 106 = .ok (.getfield 21, 3) := by decide +kernel
theorem dX12_useObject_109 : decode cX12_useObject 109 = .ok (.iload_n 2, 1) := by decide +kernel
theorem dX12_useObject_110 : decode cX12_useObject 110 = .ok (.iaload, 1) := by decide +kernel
theorem dX12_useObject_111 : decode cX12_useObject 111 = .ok (.aload_n 0, 1) := by decide +kernel
theorem dX12_useObject_112 : decode cX12_useObject 112 = .ok (.getfield 27, 3) := by decide +kernel
theorem dX12_useObject_115 : decode cX12_useObject 115 = .ok (.aload_n 0, 1) := by decide +kernel
theorem dX12_useObject_116 : decode cX12_useObject 116 = .ok (.getfield 156, 3) := by decide +kernel
theorem dX12_useObject_119 : decode cX12_useObject 119 = .ok (.iaload, 1) := by decide +kernel
theorem dX12_useObject_120 : decode cX12_useObject 120 = .ok (.if_icmp .ne 7, 3) := by decide +kernel
theorem dX12_useObject_123 : decode cX12_useObject 123 = .ok (.iconst 1, 1) := by decide +kernel
theorem dX12_useObject_124 : decode cX12_useObject 124 = .ok (.goto 4, 3) := by decide +kernel
theorem dX12_useObject_127 : decode cX12_useObject 127 = .ok (.iconst 0, 1) := by decide +kernel
theorem dX12_useObject_128 : decode cX12_useObject 128 = .ok (.invokevirtual 231, 3) := by decide +kernel
theorem dX12_useObject_131 : decode cX12_useObject 131 = .ok (.aload_n 0, 1) := by decide +kernel
theorem dX12_useObject_132 : decode cX12_useObject 132 = .ok (.iconst 1, 1) := by decide +kernel
theorem dX12_useObject_133 : decode cX12_useObject 133 = .ok (.invokevirtual 235, 3) := by decide +kernel
theorem dX12_useObject_136 : decode cX12_useObject 136 = .ok (.pop, 1) := by decide +kernel
theorem dX12_useObject_137 : decode cX12_useObject 137 = .ok (.goto 50, 3) := by decide +kernel
theorem dX12_useObject_140 : decode cX12_useObject 140 = .ok (.aload_n 0, 1) := by decide +kernel
theorem dX12_useObject_141 : decode cX12_useObject 141 = .ok (.iload_n 2, 1) := by decide +kernel
theorem dX12_useObject_142 : decode cX12_useObject 142 = .ok (.invokevirtual 295, 3) := by decide +kernel
theorem dX12_useObject_145 : decode cX12_useObject 145 = .ok (.goto 42, 3) := by decide +kernel
theorem dX12_useObject_148 : decode cX12_useObject 148 = .ok (.aload_n 0, 1) := by decide +kernel
theorem dX12_useObject_149 : decode cX12_useObject 149 = .ok (.iload_n 2, 1) := by decide +kernel
theorem dX12_useObject_150 : decode cX12_useObject 150 = .ok (.invokevirtual 298, 3) := by decide +kernel
theorem dX12_useObject_153 : decode cX12_useObject 153 = .ok (.goto 34, 3) := by decide +kernel
theorem dX12_useObject_156 : decode cX12_useObject 156 = .ok (.aload_n 0, 1) := by decide +kernel
theorem dX12_useObject_157 : decode cX12_useObject 157 = .ok (.iload_n 2, 1) := by decide +kernel
theorem dX12_useObject_158 : decode cX12_useObject 158 = .ok (.invokevirtual 301, 3) := by decide +kernel
theorem dX12_useObject_161 : decode cX12_useObject 161 = .ok (.iload_n 1, 1) := by decide +kernel
theorem dX12_useObject_162 : decode cX12_useObject 162 = .ok (.bipush 36, 2) := by decide +kernel
theorem dX12_useObject_164 : decode cX12_useObject 164 = .ok (.if_icmp .ne 13, 3) := by decide +kernel
theorem dX12_useObject_167 : decode cX12_useObject 167 = .ok (.aload_n 0, 1) := by decide +kernel
theorem dX12_useObject_168 : decode cX12_useObject 168 = .ok (.aload_n 0, 1) := by decide +kernel
theorem dX12_useObject_169 : decode cX12_useObject 169 = .ok (.getfield 27, 3) := by decide +kernel
theorem dX12_useObject_172 : decode cX12_useObject 172 = .ok (.iload_n 2, 1) := by decide +kernel
theorem dX12_useObject_173 : decode cX12_useObject 173 = .ok (.iaload, 1) := by decide +kernel
theorem dX12_useObject_174 : decode cX12_useObject 174 = .ok (.invokevirtual 292, 3) := by decide +kernel
theorem dX12_useObject_177 : decode cX12_useObject 177 = .ok (.aload_n 0, 1) := by decide +kernel
theorem dX12_useObject_178 : decode cX12_useObject 178 = .ok (.aload_n 0, 1) := by decide +kernel
theorem dX12_useObject_179 : decode cX12_useObject 179 = .ok (.getfield 33, 3) := by decide +kernel
theorem dX12_useObject_182 : decode cX12_useObject 182 = .ok (.iload_n 2, 1) := by decide +kernel
theorem dX12_useObject_183 : decode cX12_useObject 183 = .ok (.iaload, 1) := by decide +kernel
theorem dX12_useObject_184 : decode cX12_useObject 184 = .ok (.invokevirtual 271, 3) := by decide +kernel
theorem dX12_useObject_187 : decode cX12_useObject 187 = .ok (.return_, 1) := by decide +kernel
theorem dX12_create_0 : decode cX12_create 0 = .ok (.bipush (-10), 2) := by decide +kernel
theorem dX12_create_2 : decode cX12_create 2 = .ok (.aload_n 0, 1) := by decide +kernel
theorem dX12_create_3 : decode cX12_create 3 = .ok (.getfield 222, 3) := by decide +kernel
theorem dX12_create_6 : decode cX12_create 6 = .ok (.isub, 1) := by decide +kernel
theorem dX12_create_7 : decode cX12_create 7 = .ok (.istore_n 2, 1) := by decide +kernel
theorem dX12_create_8 : decode cX12_create 8 = .ok (.iconst 0, 1) := by decide +kernel
theorem dX12_create_9 : decode cX12_create 9 = .ok (.istore_n 3, 1) := by decide +kernel
theorem dX12_create_10 : decode cX12_create 10 = .ok (.iload_n 3, 1) := by decide +kernel
theorem dX12_create_11 : decode cX12_create 11 = .ok (.aload_n 0, 1) := by decide +kernel
theorem dX12_create_12 : decode cX12_create 12 = .ok (.getfield 81, 3) := by decide +kernel
theorem dX12_create_15 : decode cX12_create 15 = .ok (.bipush 24, 2) := by decide +kernel
theorem dX12_create_17 : decode cX12_create 17 = .ok (.iaload, 1) := by decide +kernel
theorem dX12_create_18 : decode cX12_create 18 = .ok (.if_icmp .ge 31, 3) := by decide +kernel
theorem dX12_create_21 : decode cX12_create 21 = .ok (.aload_n 0, 1) := by decide +kernel
theorem dX12_create_22 : decode cX12_create 22 = .ok (.aload_n 0, 1) := by decide +kernel
theorem dX12_create_23 : decode cX12_create 23 = .ok (.getfield 81, 3) := by decide +kernel
theorem dX12_create_26 : decode cX12_create 26 = .ok (.bipush 12, 2) := by decide +kernel
theorem dX12_create_28 : decode cX12_create 28 = .ok (.iload_n 3, 1) := by decide +kernel
theorem dX12_create_29 : decode cX12_create 29 = .ok (.iadd, 1) := by decide +kernel
theorem dX12_create_30 : decode cX12_create 30 = .ok (.iaload, 1) := by decide +kernel
theorem dX12_create_31 : decode cX12_create 31 = .ok (.iload_n 2, 1) := by decide +kernel
theorem dX12_create_32 : decode cX12_create 32 = .ok (.if_icmp .eq 7, 3) := by decide +kernel
theorem dX12_create_35 : decode cX12_create 35 = .ok (.iconst 1, 1) := by decide +kernel
theorem dX12_create_36 : decode cX12_create 36 = .ok (.goto 4, 3) := by decide +kernel
theorem dX12_create_39 : decode cX12_create 39 = .ok (.iconst 0, 1) := by decide +kernel
theorem dX12_create_40 : decode cX12_create 40 = .ok (.invokevirtual 231, 3) := by decide +kernel
theorem dX12_create_43 : decode cX12_create 43 = .ok (.iinc 3 1, 3) := by decide +kernel
theorem dX12_create_46 : decode cX12_create 46 = .ok (.goto (-36), 3) := by decide +kernel
theorem dX12_create_49 : decode cX12_create 49 = .ok (.iconst 0, 1) := by decide +kernel
theorem dX12_create_50 : decode cX12_create 50 = .ok (.istore_n 3, 1) := by decide +kernel
theorem dX12_create_51 : decode cX12_create 51 = .ok (.iload_n 3, 1) := by decide +kernel
theorem dX12_create_52 : decode cX12_create 52 = .ok (.bipush 12, 2) := by decide +kernel
theorem dX12_create_54 : decode cX12_create 54 = .ok (.if_icmp .ge 27, 3) := by decide +kernel
theorem dX12_create_57 : decode cX12_create 57 = .ok (.aload_n 0, 1) := by decide +kernel
theorem dX12_create_58 : decode cX12_create 58 = .ok (.getfield 81, 3) := by decide +kernel
theorem dX12_create_61 : decode cX12_create 61 = .ok (.iload_n 3, 1) := by decide +kernel
theorem dX12_create_62 : decode cX12_create 62 = .ok (.iaload, 1) := by decide +kernel
theorem dX12_create_63 : decode cX12_create 63 = .ok (.iload_n 2, 1) := by decide +kernel
theorem dX12_create_64 : decode cX12_create 64 = .ok (.if_icmp .ne 11, 3) := by decide +kernel
theorem dX12_create_67 : decode cX12_create 67 = .ok (.aload_n 0, 1) := by decide +kernel
theorem dX12_create_68 : decode cX12_create 68 = .ok (.getfield 81, 3) := by decide +kernel
theorem dX12_create_71 : decode cX12_create 71 = .ok (.iload_n 3, 1) := by decide +kernel
theorem dX12_create_72 : decode cX12_create 72 = .ok (.bipush (-2), 2) := by decide +kernel
theorem dX12_create_74 : decode cX12_create 74 = .ok (.iastore, 1) := by decide +kernel
theorem dX12_create_75 : decode cX12_create 75 = .ok (.iinc 3 1, 3) := by decide +kernel
theorem dX12_create_78 : decode cX12_create 78 = .ok (.goto (-27), 3) := by decide +kernel
theorem dX12_create_81 : decode cX12_create 81 = .ok (.aload_n 0, 1) := by decide +kernel
theorem dX12_create_82 : decode cX12_create 82 = .ok (.iload_n 2, 1) := by decide +kernel
theorem dX12_create_83 : decode cX12_create 83 = .ok (.invokevirtual 247, 3) := by decide +kernel
