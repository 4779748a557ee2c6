theorem dX5_load_25 : decode cX5_load 25 = .ok (.iload 6, 2) := by decide +kernel
theorem dX5_load_27 : decode cX5_load 27 = .ok (.invokestatic 57, 3) := by decide +kernel
theorem dX5_load_30 : decode cX5_load 30 = .ok (.ifCond .eq 24, 3) := by decide +kernel
theorem dX5_load_33 : decode cX5_load 33 = .ok (.aload_n 0, 1) := by decide +kernel
theorem dX5_load_34 : decode cX5_load 34 = .ok (.getfield 9, 3) := by decide +kernel
theorem dX5_load_37 : decode cX5_load 37 = .ok (.aload_n 0, 1) := by decide +kernel
theorem dX5_load_38 : decode cX5_load 38 = .ok (.getfield 15, 3) := by decide +kernel
theorem dX5_load_41 : decode cX5_load 41 = .ok (.iload 6, 2) := by decide +kernel
theorem dX5_load_43 : decode cX5_load 43 = .ok (.iastore, 1) := by decide +kernel
theorem dX5_load_44 : decode cX5_load 44 = .ok (.aload_n 0, 1) := by decide +kernel
theorem dX5_load_45 : decode cX5_load 45 = .ok (.dup, 1) := by decide +kernel
theorem dX5_load_46 : decode cX5_load 46 = .ok (.getfield 15, 3) := by decide +kernel
theorem dX5_load_49 : decode cX5_load 49 = .ok (.iconst 1, 1) := by decide +kernel
theorem dX5_load_50 : decode cX5_load 50 = .ok (.iadd, 1) := by decide +kernel
theorem dX5_load_51 : decode cX5_load 51 = .ok (.putfield 15, 3) := by decide +kernel
theorem dX5_load_54 : decode cX5_load 54 = .ok (.iinc 6 1, 3) := by decide +kernel
theorem dX5_load_57 : decode cX5_load 57 = .ok (.goto (-49), 3) := by decide +kernel
theorem dX5_load_60 : decode cX5_load 60 = .ok (.iconst 0, 1) := by decide +kernel
theorem dX5_load_61 : decode cX5_load 61 = .ok (.istore 6, 2) := by decide +kernel
theorem dX5_load_63 : decode cX5_load 63 = .ok (.iload 6, 2) := by decide +kernel
theorem dX5_load_65 : decode cX5_load 65 = .ok (.aload_n 0, 1) := by decide +kernel
theorem dX5_load_66 : decode cX5_load 66 = .ok (.getfield 15, 3) := by decide +kernel
theorem dX5_load_69 : decode cX5_load 69 = .ok (.if_icmp .ge 172, 3) := by decide +kernel
theorem dX5_load_72 : decode cX5_load 72 = .ok (.aload_n 0, 1) := by decide +kernel
theorem dX5_load_73 : decode cX5_load 73 = .ok (.getfield 19, 3) := by decide +kernel
theorem dX5_load_76 : decode cX5_load 76 = .ok (.iload 6, 2) := by decide +kernel
theorem dX5_load_78 : decode cX5_load 78 = .ok (.iconst 0, 1) := by decide +kernel
theorem dX5_load_79 : decode cX5_load 79 = .ok (.iastore, 1) := by decide +kernel
theorem dX5_load_80 : decode cX5_load 80 = .ok (.aload_n 0, 1) := by decide +kernel
theorem dX5_load_81 : decode cX5_load 81 = .ok (.getfield 22, 3) := by decide +kernel
theorem dX5_load_84 : decode cX5_load 84 = .ok (.iload 6, 2) := by decide +kernel
theorem dX5_load_86 : decode cX5_load 86 = .ok (.iconst 0, 1) := by decide +kernel
theorem dX5_load_87 : decode cX5_load 87 = .ok (.iastore, 1) := by decide +kernel
theorem dX5_load_88 : decode cX5_load 88 = .ok (.aload_n 0, 1) := by decide +kernel
theorem dX5_load_89 : decode cX5_load 89 = .ok (.getfield 25, 3) := by decide +kernel
theorem dX5_load_92 : decode cX5_load 92 = .ok (.iconst 1, 1) := by decide +kernel
theorem dX5_load_93 : decode cX5_load 93 = .ok (.iload 6, 2) := by decide +kernel
theorem dX5_load_95 : decode cX5_load 95 = .ok (.ishl, 1) := by decide +kernel
theorem dX5_load_96 : decode cX5_load 96 = .ok (.iconst 0, 1) := by decide +kernel
theorem dX5_load_97 : decode cX5_load 97 = .ok (.iastore, 1) := by decide +kernel
theorem dX5_load_98 : decode cX5_load 98 = .ok (.aload_n 3, 1) := by decide +kernel
theorem dX5_load_99 : decode cX5_load 99 = .ok (.aload_n 0, 1) := by decide +kernel
theorem dX5_load_100 : decode cX5_load 100 = .ok (.getfield 9, 3) := by decide +kernel
theorem dX5_load_103 : decode cX5_load 103 = .ok (.iload 6, 2) := by decide +kernel
theorem dX5_load_105 : decode cX5_load 105 = .ok (.iaload, 1) := by decide +kernel
theorem dX5_load_106 : decode cX5_load 106 = .ok (.invokevirtual 61, 3) := by decide +kernel
theorem dX5_load_109 : decode cX5_load 109 = .ok (.lstore 7, 2) := by decide +kernel
theorem dX5_load_111 : decode cX5_load 111 = .ok (.aload_n 3, 1) := by decide +kernel
theorem dX5_load_112 : decode cX5_load 112 = .ok (.aload_n 0, 1) := by decide +kernel
theorem dX5_load_113 : decode cX5_load 113 = .ok (.getfield 9, 3) := by decide +kernel
theorem dX5_load_116 : decode cX5_load 116 = .ok (.iload 6, 2) := by decide +kernel
theorem dX5_load_118 : decode cX5_load 118 = .ok (.iaload, 1) := by decide +kernel
theorem dX5_load_119 : decode cX5_load 119 = .ok (.invokevirtual 67, 3) := by decide +kernel
theorem dX5_load_122 : decode cX5_load 122 = .ok (.lstore 9, 2) := by decide +kernel
theorem dX5_load_124 : decode cX5_load 124 = .ok (.iconst 0, 1) := by decide +kernel
theorem dX5_load_125 : decode cX5_load 125 = .ok (.istore 11, 2) := by decide +kernel
theorem dX5_load_127 : decode cX5_load 127 = .ok (.iload 11, 2) := by decide +kernel
theorem dX5_load_129 : decode cX5_load 129 = .ok (.iload 6, 2) := by decide +kernel
theorem dX5_load_131 : decode cX5_load 131 = .ok (.if_icmp .ge 104, 3) := by decide +kernel
theorem dX5_load_134 : decode cX5_load 134 = .ok (.aload_n 0, 1) := by decide +kernel
theorem dX5_load_135 : decode cX5_load 135 = .ok (.getfield 19, 3) := by decide +kernel
theorem dX5_load_138 : decode cX5_load 138 = .ok (.iload 6, 2) := by decide +kernel
theorem dX5_load_140 : decode cX5_load 140 = .ok (.dup2, 1) := by decide +kernel
theorem dX5_load_141 : decode cX5_load 141 = .ok (.iaload, 1) := by decide +kernel
theorem dX5_load_142 : decode cX5_load 142 = .ok (.lload 7, 2) := by decide +kernel
theorem dX5_load_144 : decode cX5_load 144 = .ok (.aload_n 0, 1) := by decide +kernel
theorem dX5_load_145 : decode cX5_load 145 = .ok (.getfield 9, 3) := by decide +kernel
theorem dX5_load_148 : decode cX5_load 148 = .ok (.iload 11, 2) := by decide +kernel
theorem dX5_load_150 : decode cX5_load 150 = .ok (.iaload, 1) := by decide +kernel
theorem dX5_load_151 : decode cX5_load 151 = .ok (.invokestatic 57, 3) := by decide +kernel
theorem dX5_load_154 : decode cX5_load 154 = .ok (.ifCond .eq 10, 3) := by decide +kernel
theorem dX5_load_157 : decode cX5_load 157 = .ok (.iconst 1, 1) := by decide +kernel
theorem dX5_load_158 : decode cX5_load 158 = .ok (.iload 11, 2) := by decide +kernel
theorem dX5_load_160 : decode cX5_load 160 = .ok (.ishl, 1) := by decide +kernel
theorem dX5_load_161 : decode cX5_load 161 = .ok (.goto 4, 3) := by decide +kernel
theorem dX5_load_164 : decode cX5_load 164 = .ok (.iconst 0, 1) := by decide +kernel
theorem dX5_load_165 : decode cX5_load 165 = .ok (.ior, 1) := by decide +kernel
theorem dX5_load_166 : decode cX5_load 166 = .ok (.iastore, 1) := by decide +kernel
theorem dX5_load_167 : decode cX5_load 167 = .ok (.aload_n 0, 1) := by decide +kernel
theorem dX5_load_168 : decode cX5_load 168 = .ok (.getfield 22, 3) := by decide +kernel
theorem dX5_load_171 : decode cX5_load 171 = .ok (.iload 6, 2) := by decide +kernel
theorem dX5_load_173 : decode cX5_load 173 = .ok (.dup2, 1) := by decide +kernel
theorem dX5_load_174 : decode cX5_load 174 = .ok (.iaload, 1) := by decide +kernel
theorem dX5_load_175 : decode cX5_load 175 = .ok (.lload 9, 2) := by decide +kernel
theorem dX5_load_177 : decode cX5_load 177 = .ok (.aload_n 0, 1) := by decide +kernel
theorem dX5_load_178 : decode cX5_load 178 = .ok (.getfield 9, 3) := by decide +kernel
theorem dX5_load_181 : decode cX5_load 181 = .ok (.iload 11, 2) := by decide +kernel
theorem dX5_load_183 : decode cX5_load 183 = .ok (.iaload, 1) := by decide +kernel
theorem dX5_load_184 : decode cX5_load 184 = .ok (.invokestatic 57, 3) := by decide +kernel
theorem dX5_load_187 : decode cX5_load 187 = .ok (.ifCond .eq 10, 3) := by decide +kernel
theorem dX5_load_190 : decode cX5_load 190 = .ok (.iconst 1, 1) := by decide +kernel
theorem dX5_load_191 : decode cX5_load 191 = .ok (.iload 11, 2) := by decide +kernel
theorem dX5_load_193 : decode cX5_load 193 = .ok (.ishl, 1) := by decide +kernel
theorem dX5_load_194 : decode cX5_load 194 = .ok (.goto 4, 3) := by decide +kernel
theorem dX5_load_197 : decode cX5_load 197 = .ok (.iconst 0, 1) := by decide +kernel
theorem dX5_load_198 : decode cX5_load 198 = .ok (.ior, 1) := by decide +kernel
theorem dX5_load_199 : decode cX5_load 199 = .ok (.iastore, 1) := by decide +kernel
theorem dX5_load_200 : decode cX5_load 200 = .ok (.aload_n 0, 1) := by decide +kernel
theorem dX5_load_201 : decode cX5_load 201 = .ok (.iload 6, 2) := by decide +kernel
theorem dX5_load_203 : decode cX5_load 203 = .ok (.iload 11, 2) := by decide +kernel
theorem dX5_load_205 : decode cX5_load 205 = .ok (.aload 4, 2) := by decide +kernel
theorem dX5_load_207 : decode cX5_load 207 = .ok (.aload 5, 2) := by decide +kernel
theorem dX5_load_209 : decode cX5_load 209 = .ok (.aload_n 0, 1) := by decide +kernel
theorem dX5_load_210 : decode cX5_load 210 = .ok (.getfield 9, 3) := by decide +kernel
theorem dX5_load_213 : decode cX5_load 213 = .ok (.iload 11, 2) := by decide +kernel
theorem dX5_load_215 : decode cX5_load 215 = .ok (.iaload, 1) := by decide +kernel
theorem dX5_load_216 : decode cX5_load 216 = .ok (.aload_n 0, 1) := by decide +kernel
theorem dX5_load_217 : decode cX5_load 217 = .ok (.getfield 9, 3) := by decide +kernel
theorem dX5_load_220 : decode cX5_load 220 = .ok (.iload 6, 2) := by decide +kernel
theorem dX5_load_222 : decode cX5_load 222 = .ok (.iaload, 1) := by decide +kernel
theorem dX5_load_223 : decode cX5_load 223 = .ok (.invokevirtual 70, 3) := by decide +kernel
theorem dX5_load_226 : decode cX5_load 226 = .ok (.invokevirtual 76, 3) := by decide +kernel
theorem dX5_load_229 : decode cX5_load 229 = .ok (.iinc 11 1, 3) := by decide +kernel
theorem dX5_load_232 : decode cX5_load 232 = .ok (.goto (-105), 3) := by decide +kernel
theorem dX5_load_235 : decode cX5_load 235 = .ok (.iinc 6 1, 3) := by decide +kernel
theorem dX5_load_238 : decode cX5_load 238 = .ok (.goto (-175), 3) := by decide +kernel
theorem dX5_load_241 : decode cX5_load 241 = .ok (.return_, 1) := by decide +kernel
theorem dX5_setGain_0 : decode cX5_setGain 0 = .ok (.iconst 1, 1) := by decide +kernel
theorem dX5_setGain_1 : decode cX5_setGain 1 = .ok (.iload_n 1, 1) := by decide +kernel
theorem dX5_setGain_2 : decode cX5_setGain 2 = .ok (.ishl, 1) := by decide +kernel
theorem dX5_setGain_3 : decode cX5_setGain 3 = .ok (.istore 4, 2) := by decide +kernel
theorem dX5_setGain_5 : decode cX5_setGain 5 = .ok (.iconst 1, 1) := by decide +kernel
theorem dX5_setGain_6 : decode cX5_setGain 6 = .ok (.iload_n 2, 1) := by decide +kernel
theorem dX5_setGain_7 : decode cX5_setGain 7 = .ok (.ishl, 1) := by decide +kernel
theorem dX5_setGain_8 : decode cX5_setGain 8 = .ok (.istore 5, 2) := by decide +kernel
theorem dX5_setGain_10 : decode cX5_setGain 10 = .ok (.iconst 0, 1) := by decide +kernel
theorem dX5_setGain_11 : decode cX5_setGain 11 = .ok (.istore 6, 2) := by decide +kernel
theorem dX5_setGain_13 : decode cX5_setGain 13 = .ok (.iload 6, 2) := by decide +kernel
theorem dX5_setGain_15 : decode cX5_setGain 15 = .ok (.iload 5, 2) := by decide +kernel
theorem dX5_setGain_17 : decode cX5_setGain 17 = .ok (.if_icmp .ge 34, 3) := by decide +kernel
theorem dX5_setGain_20 : decode cX5_setGain 20 = .ok (.aload_n 0, 1) := by decide +kernel
theorem dX5_setGain_21 : decode cX5_setGain 21 = .ok (.getfield 25, 3) := by decide +kernel
theorem dX5_setGain_24 : decode cX5_setGain 24 = .ok (.iload 4, 2) := by decide +kernel
theorem dX5_setGain_26 : decode cX5_setGain 26 = .ok (.iload 5, 2) := by decide +kernel
theorem dX5_setGain_28 : decode cX5_setGain 28 = .ok (.iadd, 1) := by decide +kernel
theorem dX5_setGain_29 : decode cX5_setGain 29 = .ok (.iload 6, 2) := by decide +kernel
theorem dX5_setGain_31 : decode cX5_setGain 31 = .ok (.iadd, 1) := by decide +kernel
theorem dX5_setGain_32 : decode cX5_setGain 32 = .ok (.aload_n 0, 1) := by decide +kernel
theorem dX5_setGain_33 : decode cX5_setGain 33 = .ok (.getfield 25, 3) := by decide +kernel
theorem dX5_setGain_36 : decode cX5_setGain 36 = .ok (.iload 4, 2) := by decide +kernel
theorem dX5_setGain_38 : decode cX5_setGain 38 = .ok (.iload 6, 2) := by decide +kernel
theorem dX5_setGain_40 : decode cX5_setGain 40 = .ok (.iadd, 1) := by decide +kernel
theorem dX5_setGain_41 : decode cX5_setGain 41 = .ok (.iaload, 1) := by decide +kernel
theorem dX5_setGain_42 : decode cX5_setGain 42 = .ok (.iload_n 3, 1) := by decide +kernel
theorem dX5_setGain_43 : decode cX5_setGain 43 = .ok (.iadd, 1) := by decide +kernel
theorem dX5_setGain_44 : decode cX5_setGain 44 = .ok (.iastore, 1) := by decide +kernel
theorem dX5_setGain_45 : decode cX5_setGain 45 = .ok (.iinc 6 1, 3) := by decide +kernel
theorem dX5_setGain_48 : decode cX5_setGain 48 = .ok (.goto (-35), 3) := by decide +kernel
theorem dX5_setGain_51 : decode cX5_setGain 51 = .ok (.return_, 1) := by decide +kernel
theorem dX5_memberOf_0 : decode cX5_memberOf 0 = .ok (.iconst 0, 1) := by decide +kernel
theorem dX5_memberOf_1 : decode cX5_memberOf 1 = .ok (.istore_n 2, 1) := by decide +kernel
theorem dX5_memberOf_2 : decode cX5_memberOf 2 = .ok (.iload_n 2, 1) := by decide +kernel
theorem dX5_memberOf_3 : decode cX5_memberOf 3 = .ok (.aload_n 0, 1) := by decide +kernel
theorem dX5_memberOf_4 : decode cX5_memberOf 4 = .ok (.getfield 15, 3) := by decide +kernel
theorem dX5_memberOf_7 : decode cX5_memberOf 7 = .ok (.if_icmp .ge 21, 3) := by decide +kernel
theorem dX5_memberOf_10 : decode cX5_memberOf 10 = .ok (.aload_n 0, 1) := by decide +kernel
theorem dX5_memberOf_11 : decode cX5_memberOf 11 = .ok (.getfield 9, 3) := by decide +kernel
theorem dX5_memberOf_14 : decode cX5_memberOf 14 = .ok (.iload_n 2, 1) := by decide +kernel
theorem dX5_memberOf_15 : decode cX5_memberOf 15 = .ok (.iaload, 1) := by decide +kernel
theorem dX5_memberOf_16 : decode cX5_memberOf 16 = .ok (.iload_n 1, 1) := by decide +kernel
theorem dX5_memberOf_17 : decode cX5_memberOf 17 = .ok (.if_icmp .ne 5, 3) := by decide +kernel
theorem dX5_memberOf_20 : decode cX5_memberOf 20 = .ok (.iload_n 2, 1) := by decide +kernel
theorem dX5_memberOf_21 : decode cX5_memberOf 21 = .ok (.ireturn, 1) := by decide +kernel
theorem dX5_memberOf_22 : decode cX5_memberOf 22 = .ok (.iinc 2 1, 3) := by decide +kernel
theorem dX5_memberOf_25 : decode cX5_memberOf 25 = .ok (.goto (-23), 3) := by decide +kernel
theorem dX5_memberOf_28 : decode cX5_memberOf 28 = .ok (.iconst (-1), 1) := by decide +kernel
theorem dX5_memberOf_29 : decode cX5_memberOf 29 = .ok (.ireturn, 1) := by decide +kernel
theorem dX5_findBest_0 : decode cX5_findBest 0 = .ok (.aload_n 0, 1) := by decide +kernel
theorem dX5_findBest_1 : decode cX5_findBest 1 = .ok (.iconst 0, 1) := by decide +kernel
theorem dX5_findBest_2 : decode cX5_findBest 2 = .ok (.putfield 37, 3) := by decide +kernel
theorem dX5_findBest_5 : decode cX5_findBest 5 = .ok (.aload_n 0, 1) := by decide +kernel
theorem dX5_findBest_6 : decode cX5_findBest 6 = .ok (.iconst 0, 1) := by decide +kernel
theorem dX5_findBest_7 : decode cX5_findBest 7 = .ok (.putfield 41, 3) := by decide +kernel
theorem dX5_findBest_10 : decode cX5_findBest 10 = .ok (.aload_n 0, 1) := by decide +kernel
theorem dX5_findBest_11 : decode cX5_findBest 11 = .ok (.iconst 0, 1) := by decide +kernel
theorem dX5_findBest_12 : decode cX5_findBest 12 = .ok (.iconst 0, 1) := by decide +kernel
theorem dX5_findBest_13 : decode cX5_findBest 13 = .ok (.iconst 0, 1) := by decide +kernel
theorem dX5_findBest_14 : decode cX5_findBest 14 = .ok (.lconst 0, 1) := by decide +kernel
theorem dX5_findBest_15 : decode cX5_findBest 15 = .ok (.iconst 0, 1) := by decide +kernel
theorem dX5_findBest_16 : decode cX5_findBest 16 = .ok (.invokevirtual 80, 3) := by decide +kernel
theorem dX5_findBest_19 : decode cX5_findBest 19 = .ok (.return_, 1) := by decide +kernel
theorem dX5_judgeNear_0 : decode cX5_judgeNear 0 = .ok (.aload_n 0, 1) := by decide +kernel
theorem dX5_judgeNear_1 : decode cX5_judgeNear 1 = .ok (.aload_n 0, 1) := by decide +kernel
theorem dX5_judgeNear_2 : decode cX5_judgeNear 2 = .ok (.getfield 41, 3) := by decide +kernel
theorem dX5_judgeNear_5 : decode cX5_judgeNear 5 = .ok (.iload_n 1, 1) := by decide +kernel
theorem dX5_judgeNear_6 : decode cX5_judgeNear 6 = .ok (.isub, 1) := by decide +kernel
theorem dX5_judgeNear_7 : decode cX5_judgeNear 7 = .ok (.putfield 44, 3) := by decide +kernel
theorem dX5_judgeNear_10 : decode cX5_judgeNear 10 = .ok (.aload_n 0, 1) := by decide +kernel
theorem dX5_judgeNear_11 : decode cX5_judgeNear 11 = .ok (.iconst 0, 1) := by decide +kernel
theorem dX5_judgeNear_12 : decode cX5_judgeNear 12 = .ok (.putfield 47, 3) := by decide +kernel
theorem dX5_judgeNear_15 : decode cX5_judgeNear 15 = .ok (.aload_n 0, 1) := by decide +kernel
theorem dX5_judgeNear_16 : decode cX5_judgeNear 16 = .ok (.lconst 0, 1) := by decide +kernel
theorem dX5_judgeNear_17 : decode cX5_judgeNear 17 = .ok (.putfield 50, 3) := by decide +kernel
theorem dX5_judgeNear_20 : decode cX5_judgeNear 20 = .ok (.aload_n 0, 1) := by decide +kernel
theorem dX5_judgeNear_21 : decode cX5_judgeNear 21 = .ok (.lconst 0, 1) := by decide +kernel
theorem dX5_judgeNear_22 : decode cX5_judgeNear 22 = .ok (.putfield 54, 3) := by decide +kernel
theorem dX5_judgeNear_25 : decode cX5_judgeNear 25 = .ok (.aload_n 0, 1) := by decide +kernel
theorem dX5_judgeNear_26 : decode cX5_judgeNear 26 = .ok (.iconst 0, 1) := by decide +kernel
theorem dX5_judgeNear_27 : decode cX5_judgeNear 27 = .ok (.iconst 0, 1) := by decide +kernel
theorem dX5_judgeNear_28 : decode cX5_judgeNear 28 = .ok (.iconst 0, 1) := by decide +kernel
theorem dX5_judgeNear_29 : decode cX5_judgeNear 29 = .ok (.lconst 0, 1) := by decide +kernel
theorem dX5_judgeNear_30 : decode cX5_judgeNear 30 = .ok (.iconst 1, 1) := by decide +kernel
theorem dX5_judgeNear_31 : decode cX5_judgeNear 31 = .ok (.invokevirtual 80, 3) := by decide +kernel
theorem dX5_judgeNear_34 : decode cX5_judgeNear 34 = .ok (.return_, 1) := by decide +kernel
theorem dX5_firstPair_0 : decode cX5_firstPair 0 = .ok (.iload_n 1, 1) := by decide +kernel
theorem dX5_firstPair_1 : decode cX5_firstPair 1 = .ok (.iload_n 1, 1) := by decide +kernel
theorem dX5_firstPair_2 : decode cX5_firstPair 2 = .ok (.iconst 1, 1) := by decide +kernel
theorem dX5_firstPair_3 : decode cX5_firstPair 3 = .ok (.isub, 1) := by decide +kernel
theorem dX5_firstPair_4 : decode cX5_firstPair 4 = .ok (.imul, 1) := by decide +kernel
theorem dX5_firstPair_5 : decode cX5_firstPair 5 = .ok (.iconst 2, 1) := by decide +kernel
theorem dX5_firstPair_6 : decode cX5_firstPair 6 = .ok (.idiv, 1) := by decide +kernel
theorem dX5_firstPair_7 : decode cX5_firstPair 7 = .ok (.ireturn, 1) := by decide +kernel
theorem dX5_settle_0 : decode cX5_settle 0 = .ok (.iload_n 1, 1) := by decide +kernel
theorem dX5_settle_1 : decode cX5_settle 1 = .ok (.aload_n 0, 1) := by decide +kernel
theorem dX5_settle_2 : decode cX5_settle 2 = .ok (.getfield 15, 3) := by decide +kernel
theorem dX5_settle_5 : decode cX5_settle 5 = .ok (.if_icmp .lt 24, 3) := by decide +kernel
theorem dX5_settle_8 : decode cX5_settle 8 = .ok (.iload 6, 2) := by decide +kernel
theorem dX5_settle_10 : decode cX5_settle 10 = .ok (.ifCond .eq 13, 3) := by decide +kernel
theorem dX5_settle_13 : decode cX5_settle 13 = .ok (.aload_n 0, 1) := by decide +kernel
theorem dX5_settle_14 : decode cX5_settle 14 = .ok (.iload_n 3, 1) := by decide +kernel
theorem dX5_settle_15 : decode cX5_settle 15 = .ok (.lload 4, 2) := by decide +kernel
theorem dX5_settle_17 : decode cX5_settle 17 = .ok (.invokevirtual 84, 3) := by decide +kernel
theorem dX5_settle_20 : decode cX5_settle 20 = .ok (.goto 8, 3) := by decide +kernel
theorem dX5_settle_23 : decode cX5_settle 23 = .ok (.aload_n 0, 1) := by decide +kernel
theorem dX5_settle_24 : decode cX5_settle 24 = .ok (.iload_n 3, 1) := by decide +kernel
theorem dX5_settle_25 : decode cX5_settle 25 = .ok (.invokevirtual 88, 3) := by decide +kernel
theorem dX5_settle_28 : decode cX5_settle 28 = .ok (.return_, 1) := by decide +kernel
theorem dX5_settle_29 : decode cX5_settle 29 = .ok (.iconst 0, 1) := by decide +kernel
theorem dX5_settle_30 : decode cX5_settle 30 = .ok (.istore 7, 2) := by decide +kernel
theorem dX5_settle_32 : decode cX5_settle 32 = .ok (.iload 7, 2) := by decide +kernel
theorem dX5_settle_34 : decode cX5_settle 34 = .ok (.iload_n 2, 1) := by decide +kernel
theorem dX5_settle_35 : decode cX5_settle 35 = .ok (.if_icmp .gt 133, 3) := by decide +kernel
theorem dX5_settle_38 : decode cX5_settle 38 = .ok (.iload 7, 2) := by decide +kernel
theorem dX5_settle_40 : decode cX5_settle 40 = .ok (.bipush 9, 2) := by decide +kernel
theorem dX5_settle_42 : decode cX5_settle 42 = .ok (.if_icmp .ge 126, 3) := by decide +kernel
theorem dX5_settle_45 : decode cX5_settle 45 = .ok (.iload 7, 2) := by decide +kernel
theorem dX5_settle_47 : decode cX5_settle 47 = .ok (.iload_n 2, 1) := by decide +kernel
theorem dX5_settle_48 : decode cX5_settle 48 = .ok (.if_icmp .ge 13, 3) := by decide +kernel
theorem dX5_settle_51 : decode cX5_settle 51 = .ok (.aload_n 0, 1) := by decide +kernel
theorem dX5_settle_52 : decode cX5_settle 52 = .ok (.getfield 28, 3) := by decide +kernel
theorem dX5_settle_55 : decode cX5_settle 55 = .ok (.iload 7, 2) := by decide +kernel
theorem dX5_settle_57 : decode cX5_settle 57 = .ok (.iaload, 1) := by decide +kernel
theorem dX5_settle_58 : decode cX5_settle 58 = .ok (.goto 4, 3) := by decide +kernel
theorem dX5_settle_61 : decode cX5_settle 61 = .ok (.iconst 0, 1) := by decide +kernel
theorem dX5_settle_62 : decode cX5_settle 62 = .ok (.istore 8, 2) := by decide +kernel
theorem dX5_settle_64 : decode cX5_settle 64 = .ok (.iload 8, 2) := by decide +kernel
theorem dX5_settle_66 : decode cX5_settle 66 = .ok (.aload_n 0, 1) := by decide +kernel
theorem dX5_settle_67 : decode cX5_settle 67 = .ok (.getfield 19, 3) := by decide +kernel
theorem dX5_settle_70 : decode cX5_settle 70 = .ok (.iload_n 1, 1) := by decide +kernel
theorem dX5_settle_71 : decode cX5_settle 71 = .ok (.iaload, 1) := by decide +kernel
theorem dX5_settle_72 : decode cX5_settle 72 = .ok (.iand, 1) := by decide +kernel
theorem dX5_settle_73 : decode cX5_settle 73 = .ok (.ifCond .ne 89, 3) := by decide +kernel
theorem dX5_settle_76 : decode cX5_settle 76 = .ok (.aload_n 0, 1) := by decide +kernel
theorem dX5_settle_77 : decode cX5_settle 77 = .ok (.getfield 22, 3) := by decide +kernel
theorem dX5_settle_80 : decode cX5_settle 80 = .ok (.iload_n 1, 1) := by decide +kernel
theorem dX5_settle_81 : decode cX5_settle 81 = .ok (.iaload, 1) := by decide +kernel
theorem dX5_settle_82 : decode cX5_settle 82 = .ok (.iload 8, 2) := by decide +kernel
theorem dX5_settle_84 : decode cX5_settle 84 = .ok (.iconst (-1), 1) := by decide +kernel
theorem dX5_settle_85 : decode cX5_settle 85 = .ok (.ixor, 1) := by decide +kernel
theorem dX5_settle_86 : decode cX5_settle 86 = .ok (.iand, 1) := by decide +kernel
theorem dX5_settle_87 : decode cX5_settle 87 = .ok (.ifCond .ne 75, 3) := by decide +kernel
theorem dX5_settle_90 : decode cX5_settle 90 = .ok (.aload_n 0, 1) := by decide +kernel
theorem dX5_settle_91 : decode cX5_settle 91 = .ok (.getfield 28, 3) := by decide +kernel
theorem dX5_settle_94 : decode cX5_settle 94 = .ok (.iload 7, 2) := by decide +kernel
theorem dX5_settle_96 : decode cX5_settle 96 = .ok (.iload 8, 2) := by decide +kernel
theorem dX5_settle_98 : decode cX5_settle 98 = .ok (.iconst 1, 1) := by decide +kernel
theorem dX5_settle_99 : decode cX5_settle 99 = .ok (.iload_n 1, 1) := by decide +kernel
theorem dX5_settle_100 : decode cX5_settle 100 = .ok (.ishl, 1) := by decide +kernel
theorem dX5_settle_101 : decode cX5_settle 101 = .ok (.ior, 1) := by decide +kernel
theorem dX5_settle_102 : decode cX5_settle 102 = .ok (.iastore, 1) := by decide +kernel
theorem dX5_settle_103 : decode cX5_settle 103 = .ok (.aload_n 0, 1) := by decide +kernel
theorem dX5_settle_104 : decode cX5_settle 104 = .ok (.getfield 31, 3) := by decide +kernel
theorem dX5_settle_107 : decode cX5_settle 107 = .ok (.iload_n 1, 1) := by decide +kernel
theorem dX5_settle_108 : decode cX5_settle 108 = .ok (.iload 7, 2) := by decide +kernel
theorem dX5_settle_110 : decode cX5_settle 110 = .ok (.iastore, 1) := by decide +kernel
theorem dX5_settle_111 : decode cX5_settle 111 = .ok (.aload_n 0, 1) := by decide +kernel
theorem dX5_settle_112 : decode cX5_settle 112 = .ok (.iload_n 1, 1) := by decide +kernel
theorem dX5_settle_113 : decode cX5_settle 113 = .ok (.iconst 1, 1) := by decide +kernel
theorem dX5_settle_114 : decode cX5_settle 114 = .ok (.iadd, 1) := by decide +kernel
theorem dX5_settle_115 : decode cX5_settle 115 = .ok (.iload_n 2, 1) := by decide +kernel
theorem dX5_settle_116 : decode cX5_settle 116 = .ok (.iload 7, 2) := by decide +kernel
theorem dX5_settle_118 : decode cX5_settle 118 = .ok (.iconst 1, 1) := by decide +kernel
theorem dX5_settle_119 : decode cX5_settle 119 = .ok (.iadd, 1) := by decide +kernel
theorem dX5_settle_120 : decode cX5_settle 120 = .ok (.invokestatic 92, 3) := by decide +kernel
theorem dX5_settle_123 : decode cX5_settle 123 = .ok (.iload_n 3, 1) := by decide +kernel
theorem dX5_settle_124 : decode cX5_settle 124 = .ok (.aload_n 0, 1) := by decide +kernel
theorem dX5_settle_125 : decode cX5_settle 125 = .ok (.getfield 25, 3) := by decide +kernel
theorem dX5_settle_128 : decode cX5_settle 128 = .ok (.iconst 1, 1) := by decide +kernel
theorem dX5_settle_129 : decode cX5_settle 129 = .ok (.iload_n 1, 1) := by decide +kernel
theorem dX5_settle_130 : decode cX5_settle 130 = .ok (.ishl, 1) := by decide +kernel
theorem dX5_settle_131 : decode cX5_settle 131 = .ok (.iload 8, 2) := by decide +kernel
theorem dX5_settle_133 : decode cX5_settle 133 = .ok (.iadd, 1) := by decide +kernel
theorem dX5_settle_134 : decode cX5_settle 134 = .ok (.iaload, 1) := by decide +kernel
theorem dX5_settle_135 : decode cX5_settle 135 = .ok (.iadd, 1) := by decide +kernel
theorem dX5_settle_136 : decode cX5_settle 136 = .ok (.lload 4, 2) := by decide +kernel
theorem dX5_settle_138 : decode cX5_settle 138 = .ok (.iload 8, 2) := by decide +kernel
theorem dX5_settle_140 : decode cX5_settle 140 = .ok (.i2l, 1) := by decide +kernel
theorem dX5_settle_141 : decode cX5_settle 141 = .ok (.aload_n 0, 1) := by decide +kernel
theorem dX5_settle_142 : decode cX5_settle 142 = .ok (.iload_n 1, 1) := by decide +kernel
theorem dX5_settle_143 : decode cX5_settle 143 = .ok (.invokevirtual 98, 3) := by decide +kernel
theorem dX5_settle_146 : decode cX5_settle 146 = .ok (.lshl, 1) := by decide +kernel
theorem dX5_settle_147 : decode cX5_settle 147 = .ok (.lor, 1) := by decide +kernel
theorem dX5_settle_148 : decode cX5_settle 148 = .ok (.iload 6, 2) := by decide +kernel
theorem dX5_settle_150 : decode cX5_settle 150 = .ok (.invokevirtual 80, 3) := by decide +kernel
theorem dX5_settle_153 : decode cX5_settle 153 = .ok (.aload_n 0, 1) := by decide +kernel
theorem dX5_settle_154 : decode cX5_settle 154 = .ok (.getfield 28, 3) := by decide +kernel
theorem dX5_settle_157 : decode cX5_settle 157 = .ok (.iload 7, 2) := by decide +kernel
theorem dX5_settle_159 : decode cX5_settle 159 = .ok (.iload 8, 2) := by decide +kernel
theorem dX5_settle_161 : decode cX5_settle 161 = .ok (.iastore, 1) := by decide +kernel
theorem dX5_settle_162 : decode cX5_settle 162 = .ok (.iinc 7 1, 3) := by decide +kernel
theorem dX5_settle_165 : decode cX5_settle 165 = .ok (.goto (-133), 3) := by decide +kernel
theorem dX5_settle_168 : decode cX5_settle 168 = .ok (.return_, 1) := by decide +kernel
theorem dX5_compare_0 : decode cX5_compare 0 = .ok (.aload_n 0, 1) := by decide +kernel
theorem dX5_compare_1 : decode cX5_compare 1 = .ok (.getfield 37, 3) := by decide +kernel
theorem dX5_compare_4 : decode cX5_compare 4 = .ok (.ifCond .eq 11, 3) := by decide +kernel
theorem dX5_compare_7 : decode cX5_compare 7 = .ok (.iload_n 1, 1) := by decide +kernel
theorem dX5_compare_8 : decode cX5_compare 8 = .ok (.aload_n 0, 1) := by decide +kernel
theorem dX5_compare_9 : decode cX5_compare 9 = .ok (.getfield 41, 3) := by decide +kernel
theorem dX5_compare_12 : decode cX5_compare 12 = .ok (.if_icmp .le 41, 3) := by decide +kernel
theorem dX5_compare_15 : decode cX5_compare 15 = .ok (.aload_n 0, 1) := by decide +kernel
theorem dX5_compare_16 : decode cX5_compare 16 = .ok (.iconst 1, 1) := by decide +kernel
theorem dX5_compare_17 : decode cX5_compare 17 = .ok (.putfield 37, 3) := by decide +kernel
theorem dX5_compare_20 : decode cX5_compare 20 = .ok (.aload_n 0, 1) := by decide +kernel
theorem dX5_compare_21 : decode cX5_compare 21 = .ok (.iload_n 1, 1) := by decide +kernel
theorem dX5_compare_22 : decode cX5_compare 22 = .ok (.putfield 41, 3) := by decide +kernel
theorem dX5_compare_25 : decode cX5_compare 25 = .ok (.iconst 0, 1) := by decide +kernel
theorem dX5_compare_26 : decode cX5_compare 26 = .ok (.istore_n 2, 1) := by decide +kernel
theorem dX5_compare_27 : decode cX5_compare 27 = .ok (.iload_n 2, 1) := by decide +kernel
theorem dX5_compare_28 : decode cX5_compare 28 = .ok (.aload_n 0, 1) := by decide +kernel
theorem dX5_compare_29 : decode cX5_compare 29 = .ok (.getfield 15, 3) := by decide +kernel
theorem dX5_compare_32 : decode cX5_compare 32 = .ok (.if_icmp .ge 21, 3) := by decide +kernel
theorem dX5_compare_35 : decode cX5_compare 35 = .ok (.aload_n 0, 1) := by decide +kernel
theorem dX5_compare_36 : decode cX5_compare 36 = .ok (.getfield 34, 3) := by decide +kernel
theorem dX5_compare_39 : decode cX5_compare 39 = .ok (.iload_n 2, 1) := by decide +kernel
theorem dX5_compare_40 : decode cX5_compare 40 = .ok (.aload_n 0, 1) := by decide +kernel
theorem dX5_compare_41 : decode cX5_compare 41 = .ok (.getfield 31, 3) := by decide +kernel
theorem dX5_compare_44 : decode cX5_compare 44 = .ok (.iload_n 2, 1) := by decide +kernel
theorem dX5_compare_45 : decode cX5_compare 45 = .ok (.iaload, 1) := by decide +kernel
theorem dX5_compare_46 : decode cX5_compare 46 = .ok (.iastore, 1) := by decide +kernel
theorem dX5_compare_47 : decode cX5_compare 47 = .ok (.iinc 2 1, 3) := by decide +kernel
theorem dX5_compare_50 : decode cX5_compare 50 = .ok (.goto (-23), 3) := by decide +kernel
theorem dX5_compare_53 : decode cX5_compare 53 = .ok (.return_, 1) := by decide +kernel
theorem dX5_judge_0 : decode cX5_judge 0 = .ok (.iload_n 1, 1) := by decide +kernel
theorem dX5_judge_1 : decode cX5_judge 1 = .ok (.aload_n 0, 1) := by decide +kernel
theorem dX5_judge_2 : decode cX5_judge 2 = .ok (.getfield 44, 3) := by decide +kernel
theorem dX5_judge_5 : decode cX5_judge 5 = .ok (.if_icmp .lt 37, 3) := by decide +kernel
theorem dX5_judge_8 : decode cX5_judge 8 = .ok (.aload_n 0, 1) := by decide +kernel
theorem dX5_judge_9 : decode cX5_judge 9 = .ok (.dup, 1) := by decide +kernel
theorem dX5_judge_10 : decode cX5_judge 10 = .ok (.getfield 47, 3) := by decide +kernel
theorem dX5_judge_13 : decode cX5_judge 13 = .ok (.iconst 1, 1) := by decide +kernel
theorem dX5_judge_14 : decode cX5_judge 14 = .ok (.iadd, 1) := by decide +kernel
theorem dX5_judge_15 : decode cX5_judge 15 = .ok (.putfield 47, 3) := by decide +kernel
theorem dX5_judge_18 : decode cX5_judge 18 = .ok (.aload_n 0, 1) := by decide +kernel
theorem dX5_judge_19 : decode cX5_judge 19 = .ok (.dup, 1) := by decide +kernel
theorem dX5_judge_20 : decode cX5_judge 20 = .ok (.getfield 50, 3) := by decide +kernel
theorem dX5_judge_23 : decode cX5_judge 23 = .ok (.lload_n 2, 1) := by decide +kernel
theorem dX5_judge_24 : decode cX5_judge 24 = .ok (.lor, 1) := by decide +kernel
theorem dX5_judge_25 : decode cX5_judge 25 = .ok (.putfield 50, 3) := by decide +kernel
theorem dX5_judge_28 : decode cX5_judge 28 = .ok (.aload_n 0, 1) := by decide +kernel
theorem dX5_judge_29 : decode cX5_judge 29 = .ok (.dup, 1) := by decide +kernel
theorem dX5_judge_30 : decode cX5_judge 30 = .ok (.getfield 54, 3) := by decide +kernel
theorem dX5_judge_33 : decode cX5_judge 33 = .ok (.lload_n 2, 1) := by decide +kernel
theorem dX5_judge_34 : decode cX5_judge 34 = .ok (.ldc2_w 102, 3) := by decide +kernel
theorem dX5_judge_37 : decode cX5_judge 37 = .ok (.lxor, 1) := by decide +kernel
theorem dX5_judge_38 : decode cX5_judge 38 = .ok (.lor, 1) := by decide +kernel
theorem dX5_judge_39 : decode cX5_judge 39 = .ok (.putfield 54, 3) := by decide +kernel
theorem dX5_judge_42 : decode cX5_judge 42 = .ok (.return_, 1) := by decide +kernel
theorem dX5_surety_0 : decode cX5_surety 0 = .ok (.aload_n 0, 1) := by decide +kernel
theorem dX5_surety_1 : decode cX5_surety 1 = .ok (.iload_n 1, 1) := by decide +kernel
theorem dX5_surety_2 : decode cX5_surety 2 = .ok (.iload_n 2, 1) := by decide +kernel
theorem dX5_surety_3 : decode cX5_surety 3 = .ok (.invokestatic 92, 3) := by decide +kernel
theorem dX5_surety_6 : decode cX5_surety 6 = .ok (.invokevirtual 98, 3) := by decide +kernel
theorem dX5_surety_9 : decode cX5_surety 9 = .ok (.iload_n 1, 1) := by decide +kernel
theorem dX5_surety_10 : decode cX5_surety 10 = .ok (.iload_n 2, 1) := by decide +kernel
theorem dX5_surety_11 : decode cX5_surety 11 = .ok (.invokestatic 104, 3) := by decide +kernel
theorem dX5_surety_14 : decode cX5_surety 14 = .ok (.iadd, 1) := by decide +kernel
theorem dX5_surety_15 : decode cX5_surety 15 = .ok (.istore_n 3, 1) := by decide +kernel
theorem dX5_surety_16 : decode cX5_surety 16 = .ok (.aload_n 0, 1) := by decide +kernel
theorem dX5_surety_17 : decode cX5_surety 17 = .ok (.getfield 54, 3) := by decide +kernel
theorem dX5_surety_20 : decode cX5_surety 20 = .ok (.iload_n 3, 1) := by decide +kernel
theorem dX5_surety_21 : decode cX5_surety 21 = .ok (.invokestatic 57, 3) := by decide +kernel
theorem dX5_surety_24 : decode cX5_surety 24 = .ok (.ifCond .ne 5, 3) := by decide +kernel
theorem dX5_surety_27 : decode cX5_surety 27 = .ok (.iconst 1, 1) := by decide +kernel
theorem dX5_surety_28 : decode cX5_surety 28 = .ok (.ireturn, 1) := by decide +kernel
theorem dX5_surety_29 : decode cX5_surety 29 = .ok (.aload_n 0, 1) := by decide +kernel
theorem dX5_surety_30 : decode cX5_surety 30 = .ok (.getfield 50, 3) := by decide +kernel
theorem dX5_surety_33 : decode cX5_surety 33 = .ok (.iload_n 3, 1) := by decide +kernel
theorem dX5_surety_34 : decode cX5_surety 34 = .ok (.invokestatic 57, 3) := by decide +kernel
theorem dX5_surety_37 : decode cX5_surety 37 = .ok (.ifCond .eq 7, 3) := by decide +kernel
theorem dX5_surety_40 : decode cX5_surety 40 = .ok (.iconst 0, 1) := by decide +kernel
theorem dX5_surety_41 : decode cX5_surety 41 = .ok (.goto 4, 3) := by decide +kernel
theorem dX5_surety_44 : decode cX5_surety 44 = .ok (.iconst 2, 1) := by decide +kernel
theorem dX5_surety_45 : decode cX5_surety 45 = .ok (.ireturn, 1) := by decide +kernel
theorem dX5_pairsThatCould_0 : decode cX5_pairsThatCould 0 = .ok (.iconst 0, 1) := by decide +kernel
theorem dX5_pairsThatCould_1 : decode cX5_pairsThatCould 1 = .ok (.istore_n 1, 1) := by decide +kernel
theorem dX5_pairsThatCould_2 : decode cX5_pairsThatCould 2 = .ok (.iconst 0, 1) := by decide +kernel
theorem dX5_pairsThatCould_3 : decode cX5_pairsThatCould 3 = .ok (.istore_n 2, 1) := by decide +kernel
theorem dX5_pairsThatCould_4 : decode cX5_pairsThatCould 4 = .ok (.iload_n 2, 1) := by decide +kernel
theorem dX5_pairsThatCould_5 : decode cX5_pairsThatCould 5 = .ok (.aload_n 0, 1) := by decide +kernel
theorem dX5_pairsThatCould_6 : decode cX5_pairsThatCould 6 = .ok (.getfield 15, 3) := by decide +kernel
theorem dX5_pairsThatCould_9 : decode cX5_pairsThatCould 9 = .ok (.if_icmp .ge 39, 3) := by decide +kernel
theorem dX5_pairsThatCould_12 : decode cX5_pairsThatCould 12 = .ok (.iload_n 2, 1) := by decide +kernel
theorem dX5_pairsThatCould_13 : decode cX5_pairsThatCould 13 = .ok (.iconst 1, 1) := by decide +kernel
theorem dX5_pairsThatCould_14 : decode cX5_pairsThatCould 14 = .ok (.iadd, 1) := by decide +kernel
theorem dX5_pairsThatCould_15 : decode cX5_pairsThatCould 15 = .ok (.istore_n 3, 1) := by decide +kernel
theorem dX5_pairsThatCould_16 : decode cX5_pairsThatCould 16 = .ok (.iload_n 3, 1) := by decide +kernel
theorem dX5_pairsThatCould_17 : decode cX5_pairsThatCould 17 = .ok (.aload_n 0, 1) := by decide +kernel
theorem dX5_pairsThatCould_18 : decode cX5_pairsThatCould 18 = .ok (.getfield 15, 3) := by decide +kernel
theorem dX5_pairsThatCould_21 : decode cX5_pairsThatCould 21 = .ok (.if_icmp .ge 21, 3) := by decide +kernel
theorem dX5_pairsThatCould_24 : decode cX5_pairsThatCould 24 = .ok (.aload_n 0, 1) := by decide +kernel
theorem dX5_pairsThatCould_25 : decode cX5_pairsThatCould 25 = .ok (.iload_n 2, 1) := by decide +kernel
theorem dX5_pairsThatCould_26 : decode cX5_pairsThatCould 26 = .ok (.iload_n 3, 1) := by decide +kernel
theorem dX5_pairsThatCould_27 : decode cX5_pairsThatCould 27 = .ok (.invokevirtual 107, 3) := by decide +kernel
theorem dX5_pairsThatCould_30 : decode cX5_pairsThatCould 30 = .ok (.ifCond .ne 6, 3) := by decide +kernel
theorem dX5_pairsThatCould_33 : decode cX5_pairsThatCould 33 = .ok (.iinc 1 1, 3) := by decide +kernel
theorem dX5_pairsThatCould_36 : decode cX5_pairsThatCould 36 = .ok (.iinc 3 1, 3) := by decide +kernel
theorem dX5_pairsThatCould_39 : decode cX5_pairsThatCould 39 = .ok (.goto (-23), 3) := by decide +kernel
theorem dX5_pairsThatCould_42 : decode cX5_pairsThatCould 42 = .ok (.iinc 2 1, 3) := by decide +kernel
theorem dX5_pairsThatCould_45 : decode cX5_pairsThatCould 45 = .ok (.goto (-41), 3) := by decide +kernel
theorem dX5_pairsThatCould_48 : decode cX5_pairsThatCould 48 = .ok (.iload_n 1, 1) := by decide +kernel
theorem dX5_pairsThatCould_49 : decode cX5_pairsThatCould 49 = .ok (.ireturn, 1) := by decide +kernel
theorem dX6_init_0 : decode cX6_init 0 = .ok (.aload_n 0, 1) := by decide +kernel
theorem dX6_init_1 : decode cX6_init 1 = .ok (.invokespecial 3, 3) := by decide +kernel
theorem dX6_init_4 : decode cX6_init 4 = .ok (.aload_n 0, 1) := by decide +kernel
theorem dX6_init_5 : decode cX6_init 5 = .ok (.new 9, 3) := by decide +kernel
theorem dX6_init_8 : decode cX6_init 8 = .ok (.dup, 1) := by decide +kernel
theorem dX6_init_9 : decode cX6_init 9 = .ok (.invokespecial 11, 3) := by decide +kernel
theorem dX6_init_12 : decode cX6_init 12 = .ok (.putfield 12, 3) := by decide +kernel
theorem dX6_init_15 : decode cX6_init 15 = .ok (.aload_n 0, 1) := by decide +kernel
theorem dX6_init_16 : decode cX6_init 16 = .ok (.iconst 0, 1) := by decide +kernel
theorem dX6_init_17 : decode cX6_init 17 = .ok (.putfield 18, 3) := by decide +kernel
theorem dX6_init_20 : decode cX6_init 20 = .ok (.aload_n 0, 1) := by decide +kernel
theorem dX6_init_21 : decode cX6_init 21 = .ok (.iconst (-1), 1) := by decide +kernel
theorem dX6_init_22 : decode cX6_init 22 = .ok (.putfield 22, 3) := by decide +kernel
theorem dX6_init_25 : decode cX6_init 25 = .ok (.aload_n 0, 1) := by decide +kernel
theorem dX6_init_26 : decode cX6_init 26 = .ok (.sipush 301, 3) := by decide +kernel
theorem dX6_init_29 : decode cX6_init 29 = .ok (.newarray .int, 2) := by decide +kernel
theorem dX6_init_31 : decode cX6_init 31 = .ok (.putfield 25, 3) := by decide +kernel
theorem dX6_init_34 : decode cX6_init 34 = .ok (.aload_n 0, 1) := by decide +kernel
theorem dX6_init_35 : decode cX6_init 35 = .ok (.sipush 301, 3) := by decide +kernel
theorem dX6_init_38 : decode cX6_init 38 = .ok (.newarray .int, 2) := by decide +kernel
theorem dX6_init_40 : decode cX6_init 40 = .ok (.putfield 29, 3) := by decide +kernel
theorem dX6_init_43 : decode cX6_init 43 = .ok (.aload_n 0, 1) := by decide +kernel
theorem dX6_init_44 : decode cX6_init 44 = .ok (.sipush 301, 3) := by decide +kernel
theorem dX6_init_47 : decode cX6_init 47 = .ok (.newarray .int, 2) := by decide +kernel
theorem dX6_init_49 : decode cX6_init 49 = .ok (.putfield 32, 3) := by decide +kernel
theorem dX6_init_52 : decode cX6_init 52 = .ok (.aload_n 0, 1) := by decide +kernel
theorem dX6_init_53 : decode cX6_init 53 = .ok (.iconst 0, 1) := by decide +kernel
theorem dX6_init_54 : decode cX6_init 54 = .ok (.putfield 35, 3) := by decide +kernel
theorem dX6_init_57 : decode cX6_init 57 = .ok (.aload_n 0, 1) := by decide +kernel
theorem dX6_init_58 : decode cX6_init 58 = .ok (.iconst 0, 1) := by decide +kernel
theorem dX6_init_59 : decode cX6_init 59 = .ok (.putfield 38, 3) := by decide +kernel
theorem dX6_init_62 : decode cX6_init 62 = .ok (.aload_n 0, 1) := by decide +kernel
theorem dX6_init_63 : decode cX6_init 63 = .ok (.bipush 16, 2) := by decide +kernel
theorem dX6_init_65 : decode cX6_init 65 = .ok (.putfield 41, 3) := by decide +kernel
theorem dX6_init_68 : decode cX6_init 68 = .ok (.return_, 1) := by decide +kernel
theorem dX6_read_0 : decode cX6_read 0 = .ok (.aload_n 0, 1) := by decide +kernel
theorem dX6_read_1 : decode cX6_read 1 = .ok (.aload_n 1, 1) := by decide +kernel
theorem dX6_read_2 : decode cX6_read 2 = .ok (.iload_n 2, 1) := by decide +kernel
theorem dX6_read_3 : decode cX6_read 3 = .ok (.invokevirtual 44, 3) := by decide +kernel
theorem dX6_read_6 : decode cX6_read 6 = .ok (.aload_n 0, 1) := by decide +kernel
theorem dX6_read_7 : decode cX6_read 7 = .ok (.iconst 0, 1) := by decide +kernel
theorem dX6_read_8 : decode cX6_read 8 = .ok (.putfield 18, 3) := by decide +kernel
theorem dX6_read_11 : decode cX6_read 11 = .ok (.aload_n 0, 1) := by decide +kernel
theorem dX6_read_12 : decode cX6_read 12 = .ok (.iconst (-1), 1) := by decide +kernel
theorem dX6_read_13 : decode cX6_read 13 = .ok (.putfield 22, 3) := by decide +kernel
theorem dX6_read_16 : decode cX6_read 16 = .ok (.aload_n 0, 1) := by decide +kernel
theorem dX6_read_17 : decode cX6_read 17 = .ok (.getfield 12, 3) := by decide +kernel
theorem dX6_read_20 : decode cX6_read 20 = .ok (.invokevirtual 48, 3) := by decide +kernel
theorem dX6_read_23 : decode cX6_read 23 = .ok (.aload_n 0, 1) := by decide +kernel
theorem dX6_read_24 : decode cX6_read 24 = .ok (.iconst 0, 1) := by decide +kernel
theorem dX6_read_25 : decode cX6_read 25 = .ok (.putfield 38, 3) := by decide +kernel
theorem dX6_read_28 : decode cX6_read 28 = .ok (.aload_n 0, 1) := by decide +kernel
theorem dX6_read_29 : decode cX6_read 29 = .ok (.aload_n 0, 1) := by decide +kernel
theorem dX6_read_30 : decode cX6_read 30 = .ok (.getfield 25, 3) := by decide +kernel
theorem dX6_read_33 : decode cX6_read 33 = .ok (.iconst 0, 1) := by decide +kernel
theorem dX6_read_34 : decode cX6_read 34 = .ok (.iaload, 1) := by decide +kernel
theorem dX6_read_35 : decode cX6_read 35 = .ok (.putfield 41, 3) := by decide +kernel
theorem dX6_read_38 : decode cX6_read 38 = .ok (.iconst 0, 1) := by decide +kernel
theorem dX6_read_39 : decode cX6_read 39 = .ok (.istore_n 3, 1) := by decide +kernel
theorem dX6_read_40 : decode cX6_read 40 = .ok (.iload_n 3, 1) := by decide +kernel
theorem dX6_read_41 : decode cX6_read 41 = .ok (.aload_n 0, 1) := by decide +kernel
theorem dX6_read_42 : decode cX6_read 42 = .ok (.getfield 35, 3) := by decide +kernel
theorem dX6_read_45 : decode cX6_read 45 = .ok (.if_icmp .ge 29, 3) := by decide +kernel
theorem dX6_read_48 : decode cX6_read 48 = .ok (.aload_n 0, 1) := by decide +kernel
theorem dX6_read_49 : decode cX6_read 49 = .ok (.getfield 41, 3) := by decide +kernel
theorem dX6_read_52 : decode cX6_read 52 = .ok (.bipush 16, 2) := by decide +kernel
theorem dX6_read_54 : decode cX6_read 54 = .ok (.if_icmp .eq 20, 3) := by decide +kernel
theorem dX6_read_57 : decode cX6_read 57 = .ok (.aload_n 0, 1) := by decide +kernel
theorem dX6_read_58 : decode cX6_read 58 = .ok (.getfield 18, 3) := by decide +kernel
theorem dX6_read_61 : decode cX6_read 61 = .ok (.ifCond .ne 13, 3) := by decide +kernel
theorem dX6_read_64 : decode cX6_read 64 = .ok (.aload_n 0, 1) := by decide +kernel
theorem dX6_read_65 : decode cX6_read 65 = .ok (.invokevirtual 51, 3) := by decide +kernel
theorem dX6_read_68 : decode cX6_read 68 = .ok (.iinc 3 1, 3) := by decide +kernel
theorem dX6_read_71 : decode cX6_read 71 = .ok (.goto (-31), 3) := by decide +kernel
theorem dX6_read_74 : decode cX6_read 74 = .ok (.return_, 1) := by decide +kernel
theorem dX6_scan_0 : decode cX6_scan 0 = .ok (.aload_n 0, 1) := by decide +kernel
theorem dX6_scan_1 : decode cX6_scan 1 = .ok (.iconst 0, 1) := by decide +kernel
theorem dX6_scan_2 : decode cX6_scan 2 = .ok (.putfield 35, 3) := by decide +kernel
theorem dX6_scan_5 : decode cX6_scan 5 = .ok (.iconst 0, 1) := by decide +kernel
theorem dX6_scan_6 : decode cX6_scan 6 = .ok (.istore_n 3, 1) := by decide +kernel
theorem dX6_scan_7 : decode cX6_scan 7 = .ok (.iconst 1, 1) := by decide +kernel
theorem dX6_scan_8 : decode cX6_scan 8 = .ok (.istore 4, 2) := by decide +kernel
theorem dX6_scan_10 : decode cX6_scan 10 = .ok (.iconst 0, 1) := by decide +kernel
theorem dX6_scan_11 : decode cX6_scan 11 = .ok (.istore 5, 2) := by decide +kernel
theorem dX6_scan_13 : decode cX6_scan 13 = .ok (.iload 5, 2) := by decide +kernel
theorem dX6_scan_15 : decode cX6_scan 15 = .ok (.sipush 300, 3) := by decide +kernel
theorem dX6_scan_18 : decode cX6_scan 18 = .ok (.if_icmp .ge 131, 3) := by decide +kernel
theorem dX6_scan_21 : decode cX6_scan 21 = .ok (.iload_n 3, 1) := by decide +kernel
theorem dX6_scan_22 : decode cX6_scan 22 = .ok (.iload_n 2, 1) := by decide +kernel
theorem dX6_scan_23 : decode cX6_scan 23 = .ok (.if_icmp .ge 126, 3) := by decide +kernel
theorem dX6_scan_26 : decode cX6_scan 26 = .ok (.iload 4, 2) := by decide +kernel
theorem dX6_scan_28 : decode cX6_scan 28 = .ok (.ifCond .eq 121, 3) := by decide +kernel
theorem dX6_scan_31 : decode cX6_scan 31 = .ok (.aload_n 1, 1) := by decide +kernel
theorem dX6_scan_32 : decode cX6_scan 32 = .ok (.iload_n 3, 1) := by decide +kernel
theorem dX6_scan_33 : decode cX6_scan 33 = .ok (.iaload, 1) := by decide +kernel
theorem dX6_scan_34 : decode cX6_scan 34 = .ok (.istore 6, 2) := by decide +kernel
theorem dX6_scan_36 : decode cX6_scan 36 = .ok (.iload 6, 2) := by decide +kernel
theorem dX6_scan_38 : decode cX6_scan 38 = .ok (.bipush 10, 2) := by decide +kernel
theorem dX6_scan_40 : decode cX6_scan 40 = .ok (.if_icmp .eq 10, 3) := by decide +kernel
theorem dX6_scan_43 : decode cX6_scan 43 = .ok (.iload 6, 2) := by decide +kernel
theorem dX6_scan_45 : decode cX6_scan 45 = .ok (.bipush 32, 2) := by decide +kernel
theorem dX6_scan_47 : decode cX6_scan 47 = .ok (.if_icmp .ne 9, 3) := by decide +kernel
theorem dX6_scan_50 : decode cX6_scan 50 = .ok (.iinc 3 1, 3) := by decide +kernel
theorem dX6_scan_53 : decode cX6_scan 53 = .ok (.goto 90, 3) := by decide +kernel
theorem dX6_scan_56 : decode cX6_scan 56 = .ok (.aload_n 0, 1) := by decide +kernel
theorem dX6_scan_57 : decode cX6_scan 57 = .ok (.getfield 32, 3) := by decide +kernel
theorem dX6_scan_60 : decode cX6_scan 60 = .ok (.aload_n 0, 1) := by decide +kernel
theorem dX6_scan_61 : decode cX6_scan 61 = .ok (.getfield 35, 3) := by decide +kernel
theorem dX6_scan_64 : decode cX6_scan 64 = .ok (.iload_n 3, 1) := by decide +kernel
theorem dX6_scan_65 : decode cX6_scan 65 = .ok (.iastore, 1) := by decide +kernel
theorem dX6_scan_66 : decode cX6_scan 66 = .ok (.aload_n 0, 1) := by decide +kernel
theorem dX6_scan_67 : decode cX6_scan 67 = .ok (.iload 6, 2) := by decide +kernel
theorem dX6_scan_69 : decode cX6_scan 69 = .ok (.invokevirtual 54, 3) := by decide +kernel
theorem dX6_scan_72 : decode cX6_scan 72 = .ok (.ifCond .eq 13, 3) := by decide +kernel
theorem dX6_scan_75 : decode cX6_scan 75 = .ok (.aload_n 0, 1) := by decide +kernel
theorem dX6_scan_76 : decode cX6_scan 76 = .ok (.aload_n 1, 1) := by decide +kernel
theorem dX6_scan_77 : decode cX6_scan 77 = .ok (.iload_n 2, 1) := by decide +kernel
theorem dX6_scan_78 : decode cX6_scan 78 = .ok (.iload_n 3, 1) := by decide +kernel
theorem dX6_scan_79 : decode cX6_scan 79 = .ok (.invokevirtual 58, 3) := by decide +kernel
theorem dX6_scan_82 : decode cX6_scan 82 = .ok (.goto 29, 3) := by decide +kernel
theorem dX6_scan_85 : decode cX6_scan 85 = .ok (.aload_n 0, 1) := by decide +kernel
theorem dX6_scan_86 : decode cX6_scan 86 = .ok (.iload 6, 2) := by decide +kernel
theorem dX6_scan_88 : decode cX6_scan 88 = .ok (.invokevirtual 62, 3) := by decide +kernel
theorem dX6_scan_91 : decode cX6_scan 91 = .ok (.ifCond .eq 13, 3) := by decide +kernel
theorem dX6_scan_94 : decode cX6_scan 94 = .ok (.aload_n 0, 1) := by decide +kernel
theorem dX6_scan_95 : decode cX6_scan 95 = .ok (.aload_n 1, 1) := by decide +kernel
theorem dX6_scan_96 : decode cX6_scan 96 = .ok (.iload_n 2, 1) := by decide +kernel
theorem dX6_scan_97 : decode cX6_scan 97 = .ok (.iload_n 3, 1) := by decide +kernel
theorem dX6_scan_98 : decode cX6_scan 98 = .ok (.invokevirtual 65, 3) := by decide +kernel
theorem dX6_scan_101 : decode cX6_scan 101 = .ok (.goto 10, 3) := by decide +kernel
theorem dX6_scan_104 : decode cX6_scan 104 = .ok (.aload_n 0, 1) := by decide +kernel
theorem dX6_scan_105 : decode cX6_scan 105 = .ok (.iload 6, 2) := by decide +kernel
theorem dX6_scan_107 : decode cX6_scan 107 = .ok (.iload_n 3, 1) := by decide +kernel
theorem dX6_scan_108 : decode cX6_scan 108 = .ok (.invokevirtual 68, 3) := by decide +kernel
theorem dX6_scan_111 : decode cX6_scan 111 = .ok (.istore_n 3, 1) := by decide +kernel
theorem dX6_scan_112 : decode cX6_scan 112 = .ok (.aload_n 0, 1) := by decide +kernel
theorem dX6_scan_113 : decode cX6_scan 113 = .ok (.getfield 25, 3) := by decide +kernel
theorem dX6_scan_116 : decode cX6_scan 116 = .ok (.aload_n 0, 1) := by decide +kernel
theorem dX6_scan_117 : decode cX6_scan 117 = .ok (.getfield 35, 3) := by decide +kernel
theorem dX6_scan_120 : decode cX6_scan 120 = .ok (.iaload, 1) := by decide +kernel
theorem dX6_scan_121 : decode cX6_scan 121 = .ok (.bipush 17, 2) := by decide +kernel
theorem dX6_scan_123 : decode cX6_scan 123 = .ok (.if_icmp .eq 7, 3) := by decide +kernel
theorem dX6_scan_126 : decode cX6_scan 126 = .ok (.iconst 1, 1) := by decide +kernel
theorem dX6_scan_127 : decode cX6_scan 127 = .ok (.goto 4, 3) := by decide +kernel
theorem dX6_scan_130 : decode cX6_scan 130 = .ok (.iconst 0, 1) := by decide +kernel
theorem dX6_scan_131 : decode cX6_scan 131 = .ok (.istore 4, 2) := by decide +kernel
theorem dX6_scan_133 : decode cX6_scan 133 = .ok (.aload_n 0, 1) := by decide +kernel
theorem dX6_scan_134 : decode cX6_scan 134 = .ok (.dup, 1) := by decide +kernel
theorem dX6_scan_135 : decode cX6_scan 135 = .ok (.getfield 35, 3) := by decide +kernel
theorem dX6_scan_138 : decode cX6_scan 138 = .ok (.iconst 1, 1) := by decide +kernel
theorem dX6_scan_139 : decode cX6_scan 139 = .ok (.iadd, 1) := by decide +kernel
theorem dX6_scan_140 : decode cX6_scan 140 = .ok (.putfield 35, 3) := by decide +kernel
theorem dX6_scan_143 : decode cX6_scan 143 = .ok (.iinc 5 1, 3) := by decide +kernel
theorem dX6_scan_146 : decode cX6_scan 146 = .ok (.goto (-133), 3) := by decide +kernel
theorem dX6_scan_149 : decode cX6_scan 149 = .ok (.aload_n 0, 1) := by decide +kernel
theorem dX6_scan_150 : decode cX6_scan 150 = .ok (.getfield 25, 3) := by decide +kernel
theorem dX6_scan_153 : decode cX6_scan 153 = .ok (.aload_n 0, 1) := by decide +kernel
theorem dX6_scan_154 : decode cX6_scan 154 = .ok (.getfield 35, 3) := by decide +kernel
theorem dX6_scan_157 : decode cX6_scan 157 = .ok (.bipush 16, 2) := by decide +kernel
theorem dX6_scan_159 : decode cX6_scan 159 = .ok (.iastore, 1) := by decide +kernel
theorem dX6_scan_160 : decode cX6_scan 160 = .ok (.aload_n 0, 1) := by decide +kernel
theorem dX6_scan_161 : decode cX6_scan 161 = .ok (.getfield 32, 3) := by decide +kernel
theorem dX6_scan_164 : decode cX6_scan 164 = .ok (.aload_n 0, 1) := by decide +kernel
theorem dX6_scan_165 : decode cX6_scan 165 = .ok (.getfield 35, 3) := by decide +kernel
theorem dX6_scan_168 : decode cX6_scan 168 = .ok (.iload_n 2, 1) := by decide +kernel
theorem dX6_scan_169 : decode cX6_scan 169 = .ok (.iastore, 1) := by decide +kernel
theorem dX6_scan_170 : decode cX6_scan 170 = .ok (.return_, 1) := by decide +kernel
theorem dX6_scanWord_0 : decode cX6_scanWord 0 = .ok (.iload_n 3, 1) := by decide +kernel
theorem dX6_scanWord_1 : decode cX6_scanWord 1 = .ok (.istore 4, 2) := by decide +kernel
theorem dX6_scanWord_3 : decode cX6_scanWord 3 = .ok (.iload 4, 2) := by decide +kernel
theorem dX6_scanWord_5 : decode cX6_scanWord 5 = .ok (.iload_n 2, 1) := by decide +kernel
theorem dX6_scanWord_6 : decode cX6_scanWord 6 = .ok (.if_icmp .ge 31, 3) := by decide +kernel
theorem dX6_scanWord_9 : decode cX6_scanWord 9 = .ok (.aload_n 0, 1) := by decide +kernel
theorem dX6_scanWord_10 : decode cX6_scanWord 10 = .ok (.aload_n 1, 1) := by decide +kernel
theorem dX6_scanWord_11 : decode cX6_scanWord 11 = .ok (.iload 4, 2) := by decide +kernel
theorem dX6_scanWord_13 : decode cX6_scanWord 13 = .ok (.iaload, 1) := by decide +kernel
theorem dX6_scanWord_14 : decode cX6_scanWord 14 = .ok (.invokevirtual 54, 3) := by decide +kernel
theorem dX6_scanWord_17 : decode cX6_scanWord 17 = .ok (.ifCond .eq 20, 3) := by decide +kernel
theorem dX6_scanWord_20 : decode cX6_scanWord 20 = .ok (.aload_n 0, 1) := by decide +kernel
theorem dX6_scanWord_21 : decode cX6_scanWord 21 = .ok (.getfield 25, 3) := by decide +kernel
theorem dX6_scanWord_24 : decode cX6_scanWord 24 = .ok (.aload_n 0, 1) := by decide +kernel
theorem dX6_scanWord_25 : decode cX6_scanWord 25 = .ok (.getfield 35, 3) := by decide +kernel
theorem dX6_scanWord_28 : decode cX6_scanWord 28 = .ok (.bipush 14, 2) := by decide +kernel
theorem dX6_scanWord_30 : decode cX6_scanWord 30 = .ok (.iastore, 1) := by decide +kernel
theorem dX6_scanWord_31 : decode cX6_scanWord 31 = .ok (.iinc 4 1, 3) := by decide +kernel
theorem dX6_scanWord_34 : decode cX6_scanWord 34 = .ok (.goto (-31), 3) := by decide +kernel
theorem dX6_scanWord_37 : decode cX6_scanWord 37 = .ok (.iconst 0, 1) := by decide +kernel
theorem dX6_scanWord_38 : decode cX6_scanWord 38 = .ok (.istore 5, 2) := by decide +kernel
theorem dX6_scanWord_40 : decode cX6_scanWord 40 = .ok (.iload 5, 2) := by decide +kernel
theorem dX6_scanWord_42 : decode cX6_scanWord 42 = .ok (.bipush 14, 2) := by decide +kernel
theorem dX6_scanWord_44 : decode cX6_scanWord 44 = .ok (.if_icmp .ge 33, 3) := by decide +kernel
theorem dX6_scanWord_47 : decode cX6_scanWord 47 = .ok (.aload_n 0, 1) := by decide +kernel
theorem dX6_scanWord_48 : decode cX6_scanWord 48 = .ok (.iload 5, 2) := by decide +kernel
theorem dX6_scanWord_50 : decode cX6_scanWord 50 = .ok (.aload_n 1, 1) := by decide +kernel
theorem dX6_scanWord_51 : decode cX6_scanWord 51 = .ok (.iload_n 3, 1) := by decide +kernel
theorem dX6_scanWord_52 : decode cX6_scanWord 52 = .ok (.iload 4, 2) := by decide +kernel
theorem dX6_scanWord_54 : decode cX6_scanWord 54 = .ok (.invokevirtual 72, 3) := by decide +kernel
theorem dX6_scanWord_57 : decode cX6_scanWord 57 = .ok (.ifCond .eq 14, 3) := by decide +kernel
theorem dX6_scanWord_60 : decode cX6_scanWord 60 = .ok (.aload_n 0, 1) := by decide +kernel
theorem dX6_scanWord_61 : decode cX6_scanWord 61 = .ok (.getfield 25, 3) := by decide +kernel
theorem dX6_scanWord_64 : decode cX6_scanWord 64 = .ok (.aload_n 0, 1) := by decide +kernel
theorem dX6_scanWord_65 : decode cX6_scanWord 65 = .ok (.getfield 35, 3) := by decide +kernel
theorem dX6_scanWord_68 : decode cX6_scanWord 68 = .ok (.iload 5, 2) := by decide +kernel
theorem dX6_scanWord_70 : decode cX6_scanWord 70 = .ok (.iastore, 1) := by decide +kernel
theorem dX6_scanWord_71 : decode cX6_scanWord 71 = .ok (.iinc 5 1, 3) := by decide +kernel
theorem dX6_scanWord_74 : decode cX6_scanWord 74 = .ok (.goto (-34), 3) := by decide +kernel
theorem dX6_scanWord_77 : decode cX6_scanWord 77 = .ok (.iload 4, 2) := by decide +kernel
theorem dX6_scanWord_79 : decode cX6_scanWord 79 = .ok (.ireturn, 1) := by decide +kernel
theorem dX6_isWord_0 : decode cX6_isWord 0 = .ok (.iload 4, 2) := by decide +kernel
theorem dX6_isWord_2 : decode cX6_isWord 2 = .ok (.iload_n 3, 1) := by decide +kernel
theorem dX6_isWord_3 : decode cX6_isWord 3 = .ok (.isub, 1) := by decide +kernel
theorem dX6_isWord_4 : decode cX6_isWord 4 = .ok (.bipush 7, 2) := by decide +kernel
theorem dX6_isWord_6 : decode cX6_isWord 6 = .ok (.if_icmp .le 5, 3) := by decide +kernel
theorem dX6_isWord_9 : decode cX6_isWord 9 = .ok (.iconst 0, 1) := by decide +kernel
theorem dX6_isWord_10 : decode cX6_isWord 10 = .ok (.ireturn, 1) := by decide +kernel
theorem dX6_isWord_11 : decode cX6_isWord 11 = .ok (.iconst 0, 1) := by decide +kernel
theorem dX6_isWord_12 : decode cX6_isWord 12 = .ok (.istore 5, 2) := by decide +kernel
theorem dX6_isWord_14 : decode cX6_isWord 14 = .ok (.iload 5, 2) := by decide +kernel
theorem dX6_isWord_16 : decode cX6_isWord 16 = .ok (.bipush 7, 2) := by decide +kernel
theorem dX6_isWord_18 : decode cX6_isWord 18 = .ok (.if_icmp .ge 50, 3) := by decide +kernel
theorem dX6_isWord_21 : decode cX6_isWord 21 = .ok (.iload_n 3, 1) := by decide +kernel
theorem dX6_isWord_22 : decode cX6_isWord 22 = .ok (.iload 5, 2) := by decide +kernel
theorem dX6_isWord_24 : decode cX6_isWord 24 = .ok (.iadd, 1) := by decide +kernel
theorem dX6_isWord_25 : decode cX6_isWord 25 = .ok (.iload 4, 2) := by decide +kernel
theorem dX6_isWord_27 : decode cX6_isWord 27 = .ok (.if_icmp .ge 12, 3) := by decide +kernel
theorem dX6_isWord_30 : decode cX6_isWord 30 = .ok (.aload_n 2, 1) := by decide +kernel
theorem dX6_isWord_31 : decode cX6_isWord 31 = .ok (.iload_n 3, 1) := by decide +kernel
theorem dX6_isWord_32 : decode cX6_isWord 32 = .ok (.iload 5, 2) := by decide +kernel
theorem dX6_isWord_34 : decode cX6_isWord 34 = .ok (.iadd, 1) := by decide +kernel
theorem dX6_isWord_35 : decode cX6_isWord 35 = .ok (.iaload, 1) := by decide +kernel
theorem dX6_isWord_36 : decode cX6_isWord 36 = .ok (.goto 5, 3) := by decide +kernel
theorem dX6_isWord_39 : decode cX6_isWord 39 = .ok (.bipush 32, 2) := by decide +kernel
theorem dX6_isWord_41 : decode cX6_isWord 41 = .ok (.istore 6, 2) := by decide +kernel
theorem dX6_isWord_43 : decode cX6_isWord 43 = .ok (.iload 6, 2) := by decide +kernel
theorem dX6_isWord_45 : decode cX6_isWord 45 = .ok (.ldc 76, 2) := by decide +kernel
theorem dX6_isWord_47 : decode cX6_isWord 47 = .ok (.iload_n 1, 1) := by decide +kernel
theorem dX6_isWord_48 : decode cX6_isWord 48 = .ok (.bipush 7, 2) := by decide +kernel
theorem dX6_isWord_50 : decode cX6_isWord 50 = .ok (.imul, 1) := by decide +kernel
theorem dX6_isWord_51 : decode cX6_isWord 51 = .ok (.iload 5, 2) := by decide +kernel
theorem dX6_isWord_53 : decode cX6_isWord 53 = .ok (.iadd, 1) := by decide +kernel
theorem dX6_isWord_54 : decode cX6_isWord 54 = .ok (.invokevirtual 78, 3) := by decide +kernel
theorem dX6_isWord_57 : decode cX6_isWord 57 = .ok (.if_icmp .eq 5, 3) := by decide +kernel
theorem dX6_isWord_60 : decode cX6_isWord 60 = .ok (.iconst 0, 1) := by decide +kernel
theorem dX6_isWord_61 : decode cX6_isWord 61 = .ok (.ireturn, 1) := by decide +kernel
theorem dX6_isWord_62 : decode cX6_isWord 62 = .ok (.iinc 5 1, 3) := by decide +kernel
theorem dX6_isWord_65 : decode cX6_isWord 65 = .ok (.goto (-51), 3) := by decide +kernel
theorem dX6_isWord_68 : decode cX6_isWord 68 = .ok (.iconst 1, 1) := by decide +kernel
theorem dX6_isWord_69 : decode cX6_isWord 69 = .ok (.ireturn, 1) := by decide +kernel
theorem dX6_scanNumber_0 : decode cX6_scanNumber 0 = .ok (.iconst 0, 1) := by decide +kernel
theorem dX6_scanNumber_1 : decode cX6_scanNumber 1 = .ok (.istore 4, 2) := by decide +kernel
theorem dX6_scanNumber_3 : decode cX6_scanNumber 3 = .ok (.iload_n 3, 1) := by decide +kernel
theorem dX6_scanNumber_4 : decode cX6_scanNumber 4 = .ok (.istore 5, 2) := by decide +kernel
theorem dX6_scanNumber_6 : decode cX6_scanNumber 6 = .ok (.iload 5, 2) := by decide +kernel
theorem dX6_scanNumber_8 : decode cX6_scanNumber 8 = .ok (.iload_n 2, 1) := by decide +kernel
theorem dX6_scanNumber_9 : decode cX6_scanNumber 9 = .ok (.if_icmp .ge 43, 3) := by decide +kernel
theorem dX6_scanNumber_12 : decode cX6_scanNumber 12 = .ok (.aload_n 0, 1) := by decide +kernel
theorem dX6_scanNumber_13 : decode cX6_scanNumber 13 = .ok (.aload_n 1, 1) := by decide +kernel
theorem dX6_scanNumber_14 : decode cX6_scanNumber 14 = .ok (.iload 5, 2) := by decide +kernel
theorem dX6_scanNumber_16 : decode cX6_scanNumber 16 = .ok (.iaload, 1) := by decide +kernel
theorem dX6_scanNumber_17 : decode cX6_scanNumber 17 = .ok (.invokevirtual 62, 3) := by decide +kernel
theorem dX6_scanNumber_20 : decode cX6_scanNumber 20 = .ok (.ifCond .eq 32, 3) := by decide +kernel
theorem dX6_scanNumber_23 : decode cX6_scanNumber 23 = .ok (.iload 5, 2) := by decide +kernel
theorem dX6_scanNumber_25 : decode cX6_scanNumber 25 = .ok (.iload_n 3, 1) := by decide +kernel
theorem dX6_scanNumber_26 : decode cX6_scanNumber 26 = .ok (.isub, 1) := by decide +kernel
theorem dX6_scanNumber_27 : decode cX6_scanNumber 27 = .ok (.iconst 5, 1) := by decide +kernel
theorem dX6_scanNumber_28 : decode cX6_scanNumber 28 = .ok (.if_icmp .ge 18, 3) := by decide +kernel
theorem dX6_scanNumber_31 : decode cX6_scanNumber 31 = .ok (.iload 4, 2) := by decide +kernel
theorem dX6_scanNumber_33 : decode cX6_scanNumber 33 = .ok (.bipush 10, 2) := by decide +kernel
theorem dX6_scanNumber_35 : decode cX6_scanNumber 35 = .ok (.imul, 1) := by decide +kernel
theorem dX6_scanNumber_36 : decode cX6_scanNumber 36 = .ok (.aload_n 1, 1) := by decide +kernel
theorem dX6_scanNumber_37 : decode cX6_scanNumber 37 = .ok (.iload 5, 2) := by decide +kernel
theorem dX6_scanNumber_39 : decode cX6_scanNumber 39 = .ok (.iaload, 1) := by decide +kernel
theorem dX6_scanNumber_40 : decode cX6_scanNumber 40 = .ok (.iadd, 1) := by decide +kernel
theorem dX6_scanNumber_41 : decode cX6_scanNumber 41 = .ok (.bipush 48, 2) := by decide +kernel
theorem dX6_scanNumber_43 : decode cX6_scanNumber 43 = .ok (.isub, 1) := by decide +kernel
theorem dX6_scanNumber_44 : decode cX6_scanNumber 44 = .ok (.istore 4, 2) := by decide +kernel
theorem dX6_scanNumber_46 : decode cX6_scanNumber 46 = .ok (.iinc 5 1, 3) := by decide +kernel
theorem dX6_scanNumber_49 : decode cX6_scanNumber 49 = .ok (.goto (-43), 3) := by decide +kernel
theorem dX6_scanNumber_52 : decode cX6_scanNumber 52 = .ok (.aload_n 0, 1) := by decide +kernel
theorem dX6_scanNumber_53 : decode cX6_scanNumber 53 = .ok (.getfield 25, 3) := by decide +kernel
theorem dX6_scanNumber_56 : decode cX6_scanNumber 56 = .ok (.aload_n 0, 1) := by decide +kernel
theorem dX6_scanNumber_57 : decode cX6_scanNumber 57 = .ok (.getfield 35, 3) := by decide +kernel
theorem dX6_scanNumber_60 : decode cX6_scanNumber 60 = .ok (.iload 5, 2) := by decide +kernel
theorem dX6_scanNumber_62 : decode cX6_scanNumber 62 = .ok (.iload_n 3, 1) := by decide +kernel
theorem dX6_scanNumber_63 : decode cX6_scanNumber 63 = .ok (.isub, 1) := by decide +kernel
theorem dX6_scanNumber_64 : decode cX6_scanNumber 64 = .ok (.iconst 5, 1) := by decide +kernel
theorem dX6_scanNumber_65 : decode cX6_scanNumber 65 = .ok (.if_icmp .le 8, 3) := by decide +kernel
theorem dX6_scanNumber_68 : decode cX6_scanNumber 68 = .ok (.bipush 17, 2) := by decide +kernel
theorem dX6_scanNumber_70 : decode cX6_scanNumber 70 = .ok (.goto 5, 3) := by decide +kernel
theorem dX6_scanNumber_73 : decode cX6_scanNumber 73 = .ok (.bipush 15, 2) := by decide +kernel
theorem dX6_scanNumber_75 : decode cX6_scanNumber 75 = .ok (.iastore, 1) := by decide +kernel
theorem dX6_scanNumber_76 : decode cX6_scanNumber 76 = .ok (.aload_n 0, 1) := by decide +kernel
theorem dX6_scanNumber_77 : decode cX6_scanNumber 77 = .ok (.getfield 29, 3) := by decide +kernel
theorem dX6_scanNumber_80 : decode cX6_scanNumber 80 = .ok (.aload_n 0, 1) := by decide +kernel
theorem dX6_scanNumber_81 : decode cX6_scanNumber 81 = .ok (.getfield 35, 3) := by decide +kernel
theorem dX6_scanNumber_84 : decode cX6_scanNumber 84 = .ok (.iload 4, 2) := by decide +kernel
theorem dX6_scanNumber_86 : decode cX6_scanNumber 86 = .ok (.iastore, 1) := by decide +kernel
theorem dX6_scanNumber_87 : decode cX6_scanNumber 87 = .ok (.iload 5, 2) := by decide +kernel
theorem dX6_scanNumber_89 : decode cX6_scanNumber 89 = .ok (.ireturn, 1) := by decide +kernel
theorem dX6_scanSign_0 : decode cX6_scanSign 0 = .ok (.iload_n 1, 1) := by decide +kernel
theorem dX6_scanSign_1 : decode cX6_scanSign 1 = .ok (.lookupswitch 112 #[(40, 99), (41, 99), (42, 99), (43, 99), (45, 99), (59, 99), (60, 99), (61, 99), (62, 99), (91, 99), (93, 99)], 99) := by decide +kernel
theorem dX6_scanSign_100 : decode cX6_scanSign 100 = .ok (.aload_n 0, 1) := by decide +kernel
theorem dX6_scanSign_101 : decode cX6_scanSign 101 = .ok (.getfield 25, 3) := by decide +kernel
theorem dX6_scanSign_104 : decode cX6_scanSign 104 = .ok (.aload_n 0, 1) := by decide +kernel
theorem dX6_scanSign_105 : decode cX6_scanSign 105 = .ok (.getfield 35, 3) := by decide +kernel
theorem dX6_scanSign_108 : decode cX6_scanSign 108 = .ok (.iload_n 1, 1) := by decide +kernel
theorem dX6_scanSign_109 : decode cX6_scanSign 109 = .ok (.iastore, 1) := by decide +kernel
theorem dX6_scanSign_110 : decode cX6_scanSign 110 = .ok (.goto 14, 3) := by decide +kernel
theorem dX6_scanSign_113 : decode cX6_scanSign 113 = .ok (.aload_n 0, 1) := by decide +kernel
theorem dX6_scanSign_114 : decode cX6_scanSign 114 = .ok (.getfield 25, 3) := by decide +kernel
theorem dX6_scanSign_117 : decode cX6_scanSign 117 = .ok (.aload_n 0, 1) := by decide +kernel
theorem dX6_scanSign_118 : decode cX6_scanSign 118 = .ok (.getfield 35, 3) := by decide +kernel
theorem dX6_scanSign_121 : decode cX6_scanSign 121 = .ok (.bipush 17, 2) := by decide +kernel
theorem dX6_scanSign_123 : decode cX6_scanSign 123 = .ok (.iastore, 1) := by decide +kernel
theorem dX6_scanSign_124 : decode cX6_scanSign 124 = .ok (.iload_n 2, 1) := by decide +kernel
theorem dX6_scanSign_125 : decode cX6_scanSign 125 = .ok (.iconst 1, 1) := by decide +kernel
theorem dX6_scanSign_126 : decode cX6_scanSign 126 = .ok (.iadd, 1) := by decide +kernel
theorem dX6_scanSign_127 : decode cX6_scanSign 127 = .ok (.ireturn, 1) := by decide +kernel
theorem dX6_isLetter_0 : decode cX6_isLetter 0 = .ok (.iload_n 1, 1) := by decide +kernel
theorem dX6_isLetter_1 : decode cX6_isLetter 1 = .ok (.bipush 97, 2) := by decide +kernel
theorem dX6_isLetter_3 : decode cX6_isLetter 3 = .ok (.if_icmp .lt 13, 3) := by decide +kernel
theorem dX6_isLetter_6 : decode cX6_isLetter 6 = .ok (.iload_n 1, 1) := by decide +kernel
theorem dX6_isLetter_7 : decode cX6_isLetter 7 = .ok (.bipush 122, 2) := by decide +kernel
theorem dX6_isLetter_9 : decode cX6_isLetter 9 = .ok (.if_icmp .gt 7, 3) := by decide +kernel
theorem dX6_isLetter_12 : decode cX6_isLetter 12 = .ok (.iconst 1, 1) := by decide +kernel
theorem dX6_isLetter_13 : decode cX6_isLetter 13 = .ok (.goto 4, 3) := by decide +kernel
theorem dX6_isLetter_16 : decode cX6_isLetter 16 = .ok (.iconst 0, 1) := by decide +kernel
theorem dX6_isLetter_17 : decode cX6_isLetter 17 = .ok (.ireturn, 1) := by decide +kernel
theorem dX6_isDigit_0 : decode cX6_isDigit 0 = .ok (.iload_n 1, 1) := by decide +kernel
theorem dX6_isDigit_1 : decode cX6_isDigit 1 = .ok (.bipush 48, 2) := by decide +kernel
theorem dX6_isDigit_3 : decode cX6_isDigit 3 = .ok (.if_icmp .lt 13, 3) := by decide +kernel
theorem dX6_isDigit_6 : decode cX6_isDigit 6 = .ok (.iload_n 1, 1) := by decide +kernel
theorem dX6_isDigit_7 : decode cX6_isDigit 7 = .ok (.bipush 57, 2) := by decide +kernel
theorem dX6_isDigit_9 : decode cX6_isDigit 9 = .ok (.if_icmp .gt 7, 3) := by decide +kernel
theorem dX6_isDigit_12 : decode cX6_isDigit 12 = .ok (.iconst 1, 1) := by decide +kernel
theorem dX6_isDigit_13 : decode cX6_isDigit 13 = .ok (.goto 4, 3) := by decide +kernel
theorem dX6_isDigit_16 : decode cX6_isDigit 16 = .ok (.iconst 0, 1) := by decide +kernel
theorem dX6_isDigit_17 : decode cX6_isDigit 17 = .ok (.ireturn, 1) := by decide +kernel
theorem dX6_advance_0 : decode cX6_advance 0 = .ok (.aload_n 0, 1) := by decide +kernel
theorem dX6_advance_1 : decode cX6_advance 1 = .ok (.getfield 38, 3) := by decide +kernel
theorem dX6_advance_4 : decode cX6_advance 4 = .ok (.aload_n 0, 1) := by decide +kernel
theorem dX6_advance_5 : decode cX6_advance 5 = .ok (.getfield 35, 3) := by decide +kernel
theorem dX6_advance_8 : decode cX6_advance 8 = .ok (.if_icmp .ge 26, 3) := by decide +kernel
theorem dX6_advance_11 : decode cX6_advance 11 = .ok (.aload_n 0, 1) := by decide +kernel
theorem dX6_advance_12 : decode cX6_advance 12 = .ok (.dup, 1) := by decide +kernel
theorem dX6_advance_13 : decode cX6_advance 13 = .ok (.getfield 38, 3) := by decide +kernel
theorem dX6_advance_16 : decode cX6_advance 16 = .ok (.iconst 1, 1) := by decide +kernel
theorem dX6_advance_17 : decode cX6_advance 17 = .ok (.iadd, 1) := by decide +kernel
theorem dX6_advance_18 : decode cX6_advance 18 = .ok (.putfield 38, 3) := by decide +kernel
theorem dX6_advance_21 : decode cX6_advance 21 = .ok (.aload_n 0, 1) := by decide +kernel
theorem dX6_advance_22 : decode cX6_advance 22 = .ok (.aload_n 0, 1) := by decide +kernel
theorem dX6_advance_23 : decode cX6_advance 23 = .ok (.getfield 25, 3) := by decide +kernel
theorem dX6_advance_26 : decode cX6_advance 26 = .ok (.aload_n 0, 1) := by decide +kernel
theorem dX6_advance_27 : decode cX6_advance 27 = .ok (.getfield 38, 3) := by decide +kernel
theorem dX6_advance_30 : decode cX6_advance 30 = .ok (.iaload, 1) := by decide +kernel
theorem dX6_advance_31 : decode cX6_advance 31 = .ok (.putfield 41, 3) := by decide +kernel
theorem dX6_advance_34 : decode cX6_advance 34 = .ok (.return_, 1) := by decide +kernel
theorem dX6_refuse_0 : decode cX6_refuse 0 = .ok (.aload_n 0, 1) := by decide +kernel
theorem dX6_refuse_1 : decode cX6_refuse 1 = .ok (.getfield 18, 3) := by decide +kernel
theorem dX6_refuse_4 : decode cX6_refuse 4 = .ok (.ifCond .ne 34, 3) := by decide +kernel
theorem dX6_refuse_7 : decode cX6_refuse 7 = .ok (.aload_n 0, 1) := by decide +kernel
theorem dX6_refuse_8 : decode cX6_refuse 8 = .ok (.aload_n 0, 1) := by decide +kernel
theorem dX6_refuse_9 : decode cX6_refuse 9 = .ok (.getfield 41, 3) := by decide +kernel
theorem dX6_refuse_12 : decode cX6_refuse 12 = .ok (.bipush 17, 2) := by decide +kernel
theorem dX6_refuse_14 : decode cX6_refuse 14 = .ok (.if_icmp .ne 7, 3) := by decide +kernel
theorem dX6_refuse_17 : decode cX6_refuse 17 = .ok (.iconst 1, 1) := by decide +kernel
theorem dX6_refuse_18 : decode cX6_refuse 18 = .ok (.goto 4, 3) := by decide +kernel
theorem dX6_refuse_21 : decode cX6_refuse 21 = .ok (.iload_n 1, 1) := by decide +kernel
theorem dX6_refuse_22 : decode cX6_refuse 22 = .ok (.putfield 18, 3) := by decide +kernel
theorem dX6_refuse_25 : decode cX6_refuse 25 = .ok (.aload_n 0, 1) := by decide +kernel
theorem dX6_refuse_26 : decode cX6_refuse 26 = .ok (.aload_n 0, 1) := by decide +kernel
theorem dX6_refuse_27 : decode cX6_refuse 27 = .ok (.getfield 32, 3) := by decide +kernel
theorem dX6_refuse_30 : decode cX6_refuse 30 = .ok (.aload_n 0, 1) := by decide +kernel
theorem dX6_refuse_31 : decode cX6_refuse 31 = .ok (.getfield 38, 3) := by decide +kernel
theorem dX6_refuse_34 : decode cX6_refuse 34 = .ok (.iaload, 1) := by decide +kernel
theorem dX6_refuse_35 : decode cX6_refuse 35 = .ok (.putfield 22, 3) := by decide +kernel
theorem dX6_refuse_38 : decode cX6_refuse 38 = .ok (.aload_n 0, 1) := by decide +kernel
theorem dX6_refuse_39 : decode cX6_refuse 39 = .ok (.bipush 18, 2) := by decide +kernel
theorem dX6_refuse_41 : decode cX6_refuse 41 = .ok (.putfield 41, 3) := by decide +kernel
theorem dX6_refuse_44 : decode cX6_refuse 44 = .ok (.return_, 1) := by decide +kernel
theorem dX6_expect_0 : decode cX6_expect 0 = .ok (.aload_n 0, 1) := by decide +kernel
theorem dX6_expect_1 : decode cX6_expect 1 = .ok (.getfield 41, 3) := by decide +kernel
theorem dX6_expect_4 : decode cX6_expect 4 = .ok (.iload_n 1, 1) := by decide +kernel
theorem dX6_expect_5 : decode cX6_expect 5 = .ok (.if_icmp .ne 10, 3) := by decide +kernel
theorem dX6_expect_8 : decode cX6_expect 8 = .ok (.aload_n 0, 1) := by decide +kernel
theorem dX6_expect_9 : decode cX6_expect 9 = .ok (.invokevirtual 84, 3) := by decide +kernel
theorem dX6_expect_12 : decode cX6_expect 12 = .ok (.goto 8, 3) := by decide +kernel
theorem dX6_expect_15 : decode cX6_expect 15 = .ok (.aload_n 0, 1) := by decide +kernel
theorem dX6_expect_16 : decode cX6_expect 16 = .ok (.iconst 2, 1) := by decide +kernel
theorem dX6_expect_17 : decode cX6_expect 17 = .ok (.invokevirtual 87, 3) := by decide +kernel
theorem dX6_expect_20 : decode cX6_expect 20 = .ok (.return_, 1) := by decide +kernel
theorem dX6_line_0 : decode cX6_line 0 = .ok (.aload_n 0, 1) := by decide +kernel
theorem dX6_line_1 : decode cX6_line 1 = .ok (.getfield 41, 3) := by decide +kernel
theorem dX6_line_4 : decode cX6_line 4 = .ok (.ifCond .eq 25, 3) := by decide +kernel
theorem dX6_line_7 : decode cX6_line 7 = .ok (.aload_n 0, 1) := by decide +kernel
theorem dX6_line_8 : decode cX6_line 8 = .ok (.getfield 41, 3) := by decide +kernel
theorem dX6_line_11 : decode cX6_line 11 = .ok (.iconst 1, 1) := by decide +kernel
theorem dX6_line_12 : decode cX6_line 12 = .ok (.if_icmp .eq 17, 3) := by decide +kernel
theorem dX6_line_15 : decode cX6_line 15 = .ok (.aload_n 0, 1) := by decide +kernel
theorem dX6_line_16 : decode cX6_line 16 = .ok (.getfield 41, 3) := by decide +kernel
theorem dX6_line_19 : decode cX6_line 19 = .ok (.iconst 2, 1) := by decide +kernel
theorem dX6_line_20 : decode cX6_line 20 = .ok (.if_icmp .eq 9, 3) := by decide +kernel
theorem dX6_line_23 : decode cX6_line 23 = .ok (.aload_n 0, 1) := by decide +kernel
theorem dX6_line_24 : decode cX6_line 24 = .ok (.iconst 2, 1) := by decide +kernel
theorem dX6_line_25 : decode cX6_line 25 = .ok (.invokevirtual 87, 3) := by decide +kernel
theorem dX6_line_28 : decode cX6_line 28 = .ok (.return_, 1) := by decide +kernel
theorem dX6_line_29 : decode cX6_line 29 = .ok (.aload_n 0, 1) := by decide +kernel
theorem dX6_line_30 : decode cX6_line 30 = .ok (.getfield 12, 3) := by decide +kernel
theorem dX6_line_33 : decode cX6_line 33 = .ok (.getfield 91, 3) := by decide +kernel
theorem dX6_line_36 : decode cX6_line 36 = .ok (.istore_n 1, 1) := by decide +kernel
theorem dX6_line_37 : decode cX6_line 37 = .ok (.iload_n 1, 1) := by decide +kernel
theorem dX6_line_38 : decode cX6_line 38 = .ok (.bipush 12, 2) := by decide +kernel
theorem dX6_line_40 : decode cX6_line 40 = .ok (.if_icmp .lt 9, 3) := by decide +kernel
theorem dX6_line_43 : decode cX6_line 43 = .ok (.aload_n 0, 1) := by decide +kernel
theorem dX6_line_44 : decode cX6_line 44 = .ok (.iconst 3, 1) := by decide +kernel
theorem dX6_line_45 : decode cX6_line 45 = .ok (.invokevirtual 87, 3) := by decide +kernel
theorem dX6_line_48 : decode cX6_line 48 = .ok (.return_, 1) := by decide +kernel
theorem dX6_line_49 : decode cX6_line 49 = .ok (.aload_n 0, 1) := by decide +kernel
theorem dX6_line_50 : decode cX6_line 50 = .ok (.getfield 12, 3) := by decide +kernel
theorem dX6_line_53 : decode cX6_line 53 = .ok (.getfield 94, 3) := by decide +kernel
theorem dX6_line_56 : decode cX6_line 56 = .ok (.iload_n 1, 1) := by decide +kernel
theorem dX6_line_57 : decode cX6_line 57 = .ok (.aload_n 0, 1) := by decide +kernel
theorem dX6_line_58 : decode cX6_line 58 = .ok (.getfield 41, 3) := by decide +kernel
theorem dX6_line_61 : decode cX6_line 61 = .ok (.iastore, 1) := by decide +kernel
theorem dX6_line_62 : decode cX6_line 62 = .ok (.aload_n 0, 1) := by decide +kernel
theorem dX6_line_63 : decode cX6_line 63 = .ok (.getfield 12, 3) := by decide +kernel
theorem dX6_line_66 : decode cX6_line 66 = .ok (.getfield 97, 3) := by decide +kernel
theorem dX6_line_69 : decode cX6_line 69 = .ok (.iload_n 1, 1) := by decide +kernel
theorem dX6_line_70 : decode cX6_line 70 = .ok (.aload_n 0, 1) := by decide +kernel
theorem dX6_line_71 : decode cX6_line 71 = .ok (.getfield 12, 3) := by decide +kernel
theorem dX6_line_74 : decode cX6_line 74 = .ok (.getfield 100, 3) := by decide +kernel
theorem dX6_line_77 : decode cX6_line 77 = .ok (.iastore, 1) := by decide +kernel
theorem dX6_line_78 : decode cX6_line 78 = .ok (.aload_n 0, 1) := by decide +kernel
theorem dX6_line_79 : decode cX6_line 79 = .ok (.getfield 41, 3) := by decide +kernel
theorem dX6_line_82 : decode cX6_line 82 = .ok (.iconst 2, 1) := by decide +kernel
theorem dX6_line_83 : decode cX6_line 83 = .ok (.if_icmp .ne 7, 3) := by decide +kernel
theorem dX6_line_86 : decode cX6_line 86 = .ok (.iconst 1, 1) := by decide +kernel
theorem dX6_line_87 : decode cX6_line 87 = .ok (.goto 4, 3) := by decide +kernel
theorem dX6_line_90 : decode cX6_line 90 = .ok (.iconst 0, 1) := by decide +kernel
theorem dX6_line_91 : decode cX6_line 91 = .ok (.istore_n 2, 1) := by decide +kernel
theorem dX6_line_92 : decode cX6_line 92 = .ok (.aload_n 0, 1) := by decide +kernel
theorem dX6_line_93 : decode cX6_line 93 = .ok (.invokevirtual 84, 3) := by decide +kernel
theorem dX6_line_96 : decode cX6_line 96 = .ok (.iload_n 2, 1) := by decide +kernel
theorem dX6_line_97 : decode cX6_line 97 = .ok (.ifCond .eq 8, 3) := by decide +kernel
theorem dX6_line_100 : decode cX6_line 100 = .ok (.aload_n 0, 1) := by decide +kernel
theorem dX6_line_101 : decode cX6_line 101 = .ok (.iconst 0, 1) := by decide +kernel
theorem dX6_line_102 : decode cX6_line 102 = .ok (.invokevirtual 103, 3) := by decide +kernel
theorem dX6_line_105 : decode cX6_line 105 = .ok (.aload_n 0, 1) := by decide +kernel
theorem dX6_line_106 : decode cX6_line 106 = .ok (.getfield 12, 3) := by decide +kernel
theorem dX6_line_109 : decode cX6_line 109 = .ok (.getfield 106, 3) := by decide +kernel
theorem dX6_line_112 : decode cX6_line 112 = .ok (.iload_n 1, 1) := by decide +kernel
theorem dX6_line_113 : decode cX6_line 113 = .ok (.aload_n 0, 1) := by decide +kernel
theorem dX6_line_114 : decode cX6_line 114 = .ok (.getfield 12, 3) := by decide +kernel
theorem dX6_line_117 : decode cX6_line 117 = .ok (.getfield 100, 3) := by decide +kernel
theorem dX6_line_120 : decode cX6_line 120 = .ok (.iastore, 1) := by decide +kernel
theorem dX6_line_121 : decode cX6_line 121 = .ok (.aload_n 0, 1) := by decide +kernel
theorem dX6_line_122 : decode cX6_line 122 = .ok (.getfield 41, 3) := by decide +kernel
theorem dX6_line_125 : decode cX6_line 125 = .ok (.iconst 3, 1) := by decide +kernel
theorem dX6_line_126 : decode cX6_line 126 = .ok (.if_icmp .ne 12, 3) := by decide +kernel
theorem dX6_line_129 : decode cX6_line 129 = .ok (.aload_n 0, 1) := by decide +kernel
theorem dX6_line_130 : decode cX6_line 130 = .ok (.invokevirtual 84, 3) := by decide +kernel
theorem dX6_line_133 : decode cX6_line 133 = .ok (.aload_n 0, 1) := by decide +kernel
theorem dX6_line_134 : decode cX6_line 134 = .ok (.iconst 0, 1) := by decide +kernel
theorem dX6_line_135 : decode cX6_line 135 = .ok (.invokevirtual 109, 3) := by decide +kernel
theorem dX6_line_138 : decode cX6_line 138 = .ok (.aload_n 0, 1) := by decide +kernel
theorem dX6_line_139 : decode cX6_line 139 = .ok (.getfield 12, 3) := by decide +kernel
theorem dX6_line_142 : decode cX6_line 142 = .ok (.getfield 112, 3) := by decide +kernel
theorem dX6_line_145 : decode cX6_line 145 = .ok (.iload_n 1, 1) := by decide +kernel
theorem dX6_line_146 : decode cX6_line 146 = .ok (.aload_n 0, 1) := by decide +kernel
theorem dX6_line_147 : decode cX6_line 147 = .ok (.getfield 12, 3) := by decide +kernel
theorem dX6_line_150 : decode cX6_line 150 = .ok (.getfield 100, 3) := by decide +kernel
theorem dX6_line_153 : decode cX6_line 153 = .ok (.iastore, 1) := by decide +kernel
theorem dX6_line_154 : decode cX6_line 154 = .ok (.aload_n 0, 1) := by decide +kernel
theorem dX6_line_155 : decode cX6_line 155 = .ok (.getfield 12, 3) := by decide +kernel
theorem dX6_line_158 : decode cX6_line 158 = .ok (.dup, 1) := by decide +kernel
theorem dX6_line_159 : decode cX6_line 159 = .ok (.getfield 91, 3) := by decide +kernel
theorem dX6_line_162 : decode cX6_line 162 = .ok (.iconst 1, 1) := by decide +kernel
theorem dX6_line_163 : decode cX6_line 163 = .ok (.iadd, 1) := by decide +kernel
theorem dX6_line_164 : decode cX6_line 164 = .ok (.putfield 91, 3) := by decide +kernel
theorem dX6_line_167 : decode cX6_line 167 = .ok (.aload_n 0, 1) := by decide +kernel
theorem dX6_line_168 : decode cX6_line 168 = .ok (.bipush 59, 2) := by decide +kernel
theorem dX6_line_170 : decode cX6_line 170 = .ok (.invokevirtual 115, 3) := by decide +kernel
theorem dX6_line_173 : decode cX6_line 173 = .ok (.return_, 1) := by decide +kernel
theorem dX6_test_0 : decode cX6_test 0 = .ok (.aload_n 0, 1) := by decide +kernel
theorem dX6_test_1 : decode cX6_test 1 = .ok (.iload_n 1, 1) := by decide +kernel
theorem dX6_test_2 : decode cX6_test 2 = .ok (.invokevirtual 118, 3) := by decide +kernel
theorem dX6_test_5 : decode cX6_test 5 = .ok (.iconst 0, 1) := by decide +kernel
theorem dX6_test_6 : decode cX6_test 6 = .ok (.istore_n 2, 1) := by decide +kernel
theorem dX6_test_7 : decode cX6_test 7 = .ok (.iload_n 2, 1) := by decide +kernel
theorem dX6_test_8 : decode cX6_test 8 = .ok (.aload_n 0, 1) := by decide +kernel
theorem dX6_test_9 : decode cX6_test 9 = .ok (.getfield 35, 3) := by decide +kernel
theorem dX6_test_12 : decode cX6_test 12 = .ok (.if_icmp .ge 35, 3) := by decide +kernel
theorem dX6_test_15 : decode cX6_test 15 = .ok (.aload_n 0, 1) := by decide +kernel
theorem dX6_test_16 : decode cX6_test 16 = .ok (.getfield 41, 3) := by decide +kernel
theorem dX6_test_19 : decode cX6_test 19 = .ok (.iconst 4, 1) := by decide +kernel
theorem dX6_test_20 : decode cX6_test 20 = .ok (.if_icmp .ne 27, 3) := by decide +kernel
theorem dX6_test_23 : decode cX6_test 23 = .ok (.aload_n 0, 1) := by decide +kernel
theorem dX6_test_24 : decode cX6_test 24 = .ok (.invokevirtual 84, 3) := by decide +kernel
theorem dX6_test_27 : decode cX6_test 27 = .ok (.aload_n 0, 1) := by decide +kernel
theorem dX6_test_28 : decode cX6_test 28 = .ok (.iload_n 1, 1) := by decide +kernel
theorem dX6_test_29 : decode cX6_test 29 = .ok (.invokevirtual 118, 3) := by decide +kernel
theorem dX6_test_32 : decode cX6_test 32 = .ok (.aload_n 0, 1) := by decide +kernel
theorem dX6_test_33 : decode cX6_test 33 = .ok (.getfield 12, 3) := by decide +kernel
theorem dX6_test_36 : decode cX6_test 36 = .ok (.bipush (-20), 2) := by decide +kernel
theorem dX6_test_38 : decode cX6_test 38 = .ok (.invokevirtual 121, 3) := by decide +kernel
theorem dX6_test_41 : decode cX6_test 41 = .ok (.iinc 2 1, 3) := by decide +kernel
theorem dX6_test_44 : decode cX6_test 44 = .ok (.goto (-37), 3) := by decide +kernel
theorem dX6_test_47 : decode cX6_test 47 = .ok (.return_, 1) := by decide +kernel
theorem dX6_both_0 : decode cX6_both 0 = .ok (.aload_n 0, 1) := by decide +kernel
theorem dX6_both_1 : decode cX6_both 1 = .ok (.iload_n 1, 1) := by decide +kernel
theorem dX6_both_2 : decode cX6_both 2 = .ok (.invokevirtual 124, 3) := by decide +kernel
theorem dX6_both_5 : decode cX6_both 5 = .ok (.iconst 0, 1) := by decide +kernel
theorem dX6_both_6 : decode cX6_both 6 = .ok (.istore_n 2, 1) := by decide +kernel
theorem dX6_both_7 : decode cX6_both 7 = .ok (.iload_n 2, 1) := by decide +kernel
theorem dX6_both_8 : decode cX6_both 8 = .ok (.aload_n 0, 1) := by decide +kernel
theorem dX6_both_9 : decode cX6_both 9 = .ok (.getfield 35, 3) := by decide +kernel
theorem dX6_both_12 : decode cX6_both 12 = .ok (.if_icmp .ge 35, 3) := by decide +kernel
theorem dX6_both_15 : decode cX6_both 15 = .ok (.aload_n 0, 1) := by decide +kernel
theorem dX6_both_16 : decode cX6_both 16 = .ok (.getfield 41, 3) := by decide +kernel
theorem dX6_both_19 : decode cX6_both 19 = .ok (.iconst 5, 1) := by decide +kernel
theorem dX6_both_20 : decode cX6_both 20 = .ok (.if_icmp .ne 27, 3) := by decide +kernel
theorem dX6_both_23 : decode cX6_both 23 = .ok (.aload_n 0, 1) := by decide +kernel
theorem dX6_both_24 : decode cX6_both 24 = .ok (.invokevirtual 84, 3) := by decide +kernel
theorem dX6_both_27 : decode cX6_both 27 = .ok (.aload_n 0, 1) := by decide +kernel
theorem dX6_both_28 : decode cX6_both 28 = .ok (.iload_n 1, 1) := by decide +kernel
theorem dX6_both_29 : decode cX6_both 29 = .ok (.invokevirtual 124, 3) := by decide +kernel
theorem dX6_both_32 : decode cX6_both 32 = .ok (.aload_n 0, 1) := by decide +kernel
theorem dX6_both_33 : decode cX6_both 33 = .ok (.getfield 12, 3) := by decide +kernel
theorem dX6_both_36 : decode cX6_both 36 = .ok (.bipush (-21), 2) := by decide +kernel
theorem dX6_both_38 : decode cX6_both 38 = .ok (.invokevirtual 121, 3) := by decide +kernel
theorem dX6_both_41 : decode cX6_both 41 = .ok (.iinc 2 1, 3) := by decide +kernel
theorem dX6_both_44 : decode cX6_both 44 = .ok (.goto (-37), 3) := by decide +kernel
theorem dX6_both_47 : decode cX6_both 47 = .ok (.return_, 1) := by decide +kernel
theorem dX6_one_0 : decode cX6_one 0 = .ok (.aload_n 0, 1) := by decide +kernel
theorem dX6_one_1 : decode cX6_one 1 = .ok (.getfield 41, 3) := by decide +kernel
theorem dX6_one_4 : decode cX6_one 4 = .ok (.bipush 6, 2) := by decide +kernel
theorem dX6_one_6 : decode cX6_one 6 = .ok (.if_icmp .eq 12, 3) := by decide +kernel
theorem dX6_one_9 : decode cX6_one 9 = .ok (.aload_n 0, 1) := by decide +kernel
theorem dX6_one_10 : decode cX6_one 10 = .ok (.getfield 41, 3) := by decide +kernel
theorem dX6_one_13 : decode cX6_one 13 = .ok (.bipush 91, 2) := by decide +kernel
theorem dX6_one_15 : decode cX6_one 15 = .ok (.if_icmp .ne 16, 3) := by decide +kernel
theorem dX6_one_18 : decode cX6_one 18 = .ok (.iload_n 1, 1) := by decide +kernel
theorem dX6_one_19 : decode cX6_one 19 = .ok (.iconst 5, 1) := by decide +kernel
theorem dX6_one_20 : decode cX6_one 20 = .ok (.if_icmp .lt 11, 3) := by decide +kernel
theorem dX6_one_23 : decode cX6_one 23 = .ok (.aload_n 0, 1) := by decide +kernel
theorem dX6_one_24 : decode cX6_one 24 = .ok (.iconst 4, 1) := by decide +kernel
theorem dX6_one_25 : decode cX6_one 25 = .ok (.invokevirtual 87, 3) := by decide +kernel
theorem dX6_one_28 : decode cX6_one 28 = .ok (.goto 69, 3) := by decide +kernel
theorem dX6_one_31 : decode cX6_one 31 = .ok (.aload_n 0, 1) := by decide +kernel
theorem dX6_one_32 : decode cX6_one 32 = .ok (.getfield 41, 3) := by decide +kernel
theorem dX6_one_35 : decode cX6_one 35 = .ok (.bipush 6, 2) := by decide +kernel
theorem dX6_one_37 : decode cX6_one 37 = .ok (.if_icmp .ne 26, 3) := by decide +kernel
theorem dX6_one_40 : decode cX6_one 40 = .ok (.aload_n 0, 1) := by decide +kernel
theorem dX6_one_41 : decode cX6_one 41 = .ok (.invokevirtual 84, 3) := by decide +kernel
theorem dX6_one_44 : decode cX6_one 44 = .ok (.aload_n 0, 1) := by decide +kernel
theorem dX6_one_45 : decode cX6_one 45 = .ok (.iload_n 1, 1) := by decide +kernel
theorem dX6_one_46 : decode cX6_one 46 = .ok (.iconst 1, 1) := by decide +kernel
theorem dX6_one_47 : decode cX6_one 47 = .ok (.iadd, 1) := by decide +kernel
theorem dX6_one_48 : decode cX6_one 48 = .ok (.invokevirtual 124, 3) := by decide +kernel
theorem dX6_one_51 : decode cX6_one 51 = .ok (.aload_n 0, 1) := by decide +kernel
theorem dX6_one_52 : decode cX6_one 52 = .ok (.getfield 12, 3) := by decide +kernel
theorem dX6_one_55 : decode cX6_one 55 = .ok (.bipush (-22), 2) := by decide +kernel
theorem dX6_one_57 : decode cX6_one 57 = .ok (.invokevirtual 121, 3) := by decide +kernel
theorem dX6_one_60 : decode cX6_one 60 = .ok (.goto 37, 3) := by decide +kernel
theorem dX6_one_63 : decode cX6_one 63 = .ok (.aload_n 0, 1) := by decide +kernel
theorem dX6_one_64 : decode cX6_one 64 = .ok (.getfield 41, 3) := by decide +kernel
theorem dX6_one_67 : decode cX6_one 67 = .ok (.bipush 91, 2) := by decide +kernel
theorem dX6_one_69 : decode cX6_one 69 = .ok (.if_icmp .ne 23, 3) := by decide +kernel
theorem dX6_one_72 : decode cX6_one 72 = .ok (.aload_n 0, 1) := by decide +kernel
theorem dX6_one_73 : decode cX6_one 73 = .ok (.invokevirtual 84, 3) := by decide +kernel
theorem dX6_one_76 : decode cX6_one 76 = .ok (.aload_n 0, 1) := by decide +kernel
theorem dX6_one_77 : decode cX6_one 77 = .ok (.iload_n 1, 1) := by decide +kernel
theorem dX6_one_78 : decode cX6_one 78 = .ok (.iconst 1, 1) := by decide +kernel
theorem dX6_one_79 : decode cX6_one 79 = .ok (.iadd, 1) := by decide +kernel
theorem dX6_one_80 : decode cX6_one 80 = .ok (.invokevirtual 109, 3) := by decide +kernel
theorem dX6_one_83 : decode cX6_one 83 = .ok (.aload_n 0, 1) := by decide +kernel
theorem dX6_one_84 : decode cX6_one 84 = .ok (.bipush 93, 2) := by decide +kernel
theorem dX6_one_86 : decode cX6_one 86 = .ok (.invokevirtual 115, 3) := by decide +kernel
theorem dX6_one_89 : decode cX6_one 89 = .ok (.goto 8, 3) := by decide +kernel
theorem dX6_one_92 : decode cX6_one 92 = .ok (.aload_n 0, 1) := by decide +kernel
theorem dX6_one_93 : decode cX6_one 93 = .ok (.iload_n 1, 1) := by decide +kernel
theorem dX6_one_94 : decode cX6_one 94 = .ok (.invokevirtual 127, 3) := by decide +kernel
theorem dX6_one_97 : decode cX6_one 97 = .ok (.return_, 1) := by decide +kernel
theorem dX6_compare_0 : decode cX6_compare 0 = .ok (.aload_n 0, 1) := by decide +kernel
theorem dX6_compare_1 : decode cX6_compare 1 = .ok (.iload_n 1, 1) := by decide +kernel
theorem dX6_compare_2 : decode cX6_compare 2 = .ok (.invokevirtual 103, 3) := by decide +kernel
theorem dX6_compare_5 : decode cX6_compare 5 = .ok (.aload_n 0, 1) := by decide +kernel
theorem dX6_compare_6 : decode cX6_compare 6 = .ok (.getfield 41, 3) := by decide +kernel
theorem dX6_compare_9 : decode cX6_compare 9 = .ok (.istore_n 2, 1) := by decide +kernel
theorem dX6_compare_10 : decode cX6_compare 10 = .ok (.iload_n 2, 1) := by decide +kernel
theorem dX6_compare_11 : decode cX6_compare 11 = .ok (.bipush 60, 2) := by decide +kernel
theorem dX6_compare_13 : decode cX6_compare 13 = .ok (.if_icmp .eq 15, 3) := by decide +kernel
theorem dX6_compare_16 : decode cX6_compare 16 = .ok (.iload_n 2, 1) := by decide +kernel
theorem dX6_compare_17 : decode cX6_compare 17 = .ok (.bipush 62, 2) := by decide +kernel
theorem dX6_compare_19 : decode cX6_compare 19 = .ok (.if_icmp .eq 9, 3) := by decide +kernel
theorem dX6_compare_22 : decode cX6_compare 22 = .ok (.iload_n 2, 1) := by decide +kernel
theorem dX6_compare_23 : decode cX6_compare 23 = .ok (.bipush 61, 2) := by decide +kernel
theorem dX6_compare_25 : decode cX6_compare 25 = .ok (.if_icmp .ne 24, 3) := by decide +kernel
theorem dX6_compare_28 : decode cX6_compare 28 = .ok (.aload_n 0, 1) := by decide +kernel
theorem dX6_compare_29 : decode cX6_compare 29 = .ok (.invokevirtual 84, 3) := by decide +kernel
theorem dX6_compare_32 : decode cX6_compare 32 = .ok (.aload_n 0, 1) := by decide +kernel
theorem dX6_compare_33 : decode cX6_compare 33 = .ok (.iload_n 1, 1) := by decide +kernel
theorem dX6_compare_34 : decode cX6_compare 34 = .ok (.invokevirtual 103, 3) := by decide +kernel
theorem dX6_compare_37 : decode cX6_compare 37 = .ok (.aload_n 0, 1) := by decide +kernel
theorem dX6_compare_38 : decode cX6_compare 38 = .ok (.getfield 12, 3) := by decide +kernel
theorem dX6_compare_41 : decode cX6_compare 41 = .ok (.iload_n 2, 1) := by decide +kernel
theorem dX6_compare_42 : decode cX6_compare 42 = .ok (.ineg, 1) := by decide +kernel
theorem dX6_compare_43 : decode cX6_compare 43 = .ok (.invokevirtual 121, 3) := by decide +kernel
theorem dX6_compare_46 : decode cX6_compare 46 = .ok (.goto 8, 3) := by decide +kernel
theorem dX6_compare_49 : decode cX6_compare 49 = .ok (.aload_n 0, 1) := by decide +kernel
theorem dX6_compare_50 : decode cX6_compare 50 = .ok (.iconst 2, 1) := by decide +kernel
theorem dX6_compare_51 : decode cX6_compare 51 = .ok (.invokevirtual 87, 3) := by decide +kernel
theorem dX6_compare_54 : decode cX6_compare 54 = .ok (.return_, 1) := by decide +kernel
theorem dX6_sum_0 : decode cX6_sum 0 = .ok (.aload_n 0, 1) := by decide +kernel
theorem dX6_sum_1 : decode cX6_sum 1 = .ok (.iload_n 1, 1) := by decide +kernel
theorem dX6_sum_2 : decode cX6_sum 2 = .ok (.invokevirtual 130, 3) := by decide +kernel
theorem dX6_sum_5 : decode cX6_sum 5 = .ok (.iconst 0, 1) := by decide +kernel
theorem dX6_sum_6 : decode cX6_sum 6 = .ok (.istore_n 2, 1) := by decide +kernel
theorem dX6_sum_7 : decode cX6_sum 7 = .ok (.iload_n 2, 1) := by decide +kernel
theorem dX6_sum_8 : decode cX6_sum 8 = .ok (.aload_n 0, 1) := by decide +kernel
theorem dX6_sum_9 : decode cX6_sum 9 = .ok (.getfield 35, 3) := by decide +kernel
theorem dX6_sum_12 : decode cX6_sum 12 = .ok (.if_icmp .ge 50, 3) := by decide +kernel
theorem dX6_sum_15 : decode cX6_sum 15 = .ok (.aload_n 0, 1) := by decide +kernel
theorem dX6_sum_16 : decode cX6_sum 16 = .ok (.getfield 41, 3) := by decide +kernel
theorem dX6_sum_19 : decode cX6_sum 19 = .ok (.bipush 43, 2) := by decide +kernel
theorem dX6_sum_21 : decode cX6_sum 21 = .ok (.if_icmp .eq 12, 3) := by decide +kernel
theorem dX6_sum_24 : decode cX6_sum 24 = .ok (.aload_n 0, 1) := by decide +kernel
theorem dX6_sum_25 : decode cX6_sum 25 = .ok (.getfield 41, 3) := by decide +kernel
theorem dX6_sum_28 : decode cX6_sum 28 = .ok (.bipush 45, 2) := by decide +kernel
theorem dX6_sum_30 : decode cX6_sum 30 = .ok (.if_icmp .ne 32, 3) := by decide +kernel
theorem dX6_sum_33 : decode cX6_sum 33 = .ok (.aload_n 0, 1) := by decide +kernel
theorem dX6_sum_34 : decode cX6_sum 34 = .ok (.getfield 41, 3) := by decide +kernel
theorem dX6_sum_37 : decode cX6_sum 37 = .ok (.istore_n 3, 1) := by decide +kernel
theorem dX6_sum_38 : decode cX6_sum 38 = .ok (.aload_n 0, 1) := by decide +kernel
theorem dX6_sum_39 : decode cX6_sum 39 = .ok (.invokevirtual 84, 3) := by decide +kernel
theorem dX6_sum_42 : decode cX6_sum 42 = .ok (.aload_n 0, 1) := by decide +kernel
theorem dX6_sum_43 : decode cX6_sum 43 = .ok (.iload_n 1, 1) := by decide +kernel
theorem dX6_sum_44 : decode cX6_sum 44 = .ok (.invokevirtual 130, 3) := by decide +kernel
theorem dX6_sum_47 : decode cX6_sum 47 = .ok (.aload_n 0, 1) := by decide +kernel
theorem dX6_sum_48 : decode cX6_sum 48 = .ok (.getfield 12, 3) := by decide +kernel
theorem dX6_sum_51 : decode cX6_sum 51 = .ok (.iload_n 3, 1) := by decide +kernel
theorem dX6_sum_52 : decode cX6_sum 52 = .ok (.ineg, 1) := by decide +kernel
theorem dX6_sum_53 : decode cX6_sum 53 = .ok (.invokevirtual 121, 3) := by decide +kernel
theorem dX6_sum_56 : decode cX6_sum 56 = .ok (.iinc 2 1, 3) := by decide +kernel
theorem dX6_sum_59 : decode cX6_sum 59 = .ok (.goto (-52), 3) := by decide +kernel
theorem dX6_sum_62 : decode cX6_sum 62 = .ok (.return_, 1) := by decide +kernel
theorem dX6_item_0 : decode cX6_item 0 = .ok (.aload_n 0, 1) := by decide +kernel
theorem dX6_item_1 : decode cX6_item 1 = .ok (.iload_n 1, 1) := by decide +kernel
theorem dX6_item_2 : decode cX6_item 2 = .ok (.invokevirtual 133, 3) := by decide +kernel
theorem dX6_item_5 : decode cX6_item 5 = .ok (.iconst 0, 1) := by decide +kernel
theorem dX6_item_6 : decode cX6_item 6 = .ok (.istore_n 2, 1) := by decide +kernel
theorem dX6_item_7 : decode cX6_item 7 = .ok (.iload_n 2, 1) := by decide +kernel
theorem dX6_item_8 : decode cX6_item 8 = .ok (.aload_n 0, 1) := by decide +kernel
theorem dX6_item_9 : decode cX6_item 9 = .ok (.getfield 35, 3) := by decide +kernel
theorem dX6_item_12 : decode cX6_item 12 = .ok (.if_icmp .ge 36, 3) := by decide +kernel
theorem dX6_item_15 : decode cX6_item 15 = .ok (.aload_n 0, 1) := by decide +kernel
theorem dX6_item_16 : decode cX6_item 16 = .ok (.getfield 41, 3) := by decide +kernel
theorem dX6_item_19 : decode cX6_item 19 = .ok (.bipush 42, 2) := by decide +kernel
theorem dX6_item_21 : decode cX6_item 21 = .ok (.if_icmp .ne 27, 3) := by decide +kernel
theorem dX6_item_24 : decode cX6_item 24 = .ok (.aload_n 0, 1) := by decide +kernel
theorem dX6_item_25 : decode cX6_item 25 = .ok (.invokevirtual 84, 3) := by decide +kernel
theorem dX6_item_28 : decode cX6_item 28 = .ok (.aload_n 0, 1) := by decide +kernel
theorem dX6_item_29 : decode cX6_item 29 = .ok (.iload_n 1, 1) := by decide +kernel
theorem dX6_item_30 : decode cX6_item 30 = .ok (.invokevirtual 133, 3) := by decide +kernel
theorem dX6_item_33 : decode cX6_item 33 = .ok (.aload_n 0, 1) := by decide +kernel
theorem dX6_item_34 : decode cX6_item 34 = .ok (.getfield 12, 3) := by decide +kernel
theorem dX6_item_37 : decode cX6_item 37 = .ok (.bipush (-42), 2) := by decide +kernel
theorem dX6_item_39 : decode cX6_item 39 = .ok (.invokevirtual 121, 3) := by decide +kernel
theorem dX6_item_42 : decode cX6_item 42 = .ok (.iinc 2 1, 3) := by decide +kernel
theorem dX6_item_45 : decode cX6_item 45 = .ok (.goto (-38), 3) := by decide +kernel
theorem dX6_item_48 : decode cX6_item 48 = .ok (.return_, 1) := by decide +kernel
theorem dX6_atom_0 : decode cX6_atom 0 = .ok (.aload_n 0, 1) := by decide +kernel
theorem dX6_atom_1 : decode cX6_atom 1 = .ok (.getfield 41, 3) := by decide +kernel
theorem dX6_atom_4 : decode cX6_atom 4 = .ok (.bipush 15, 2) := by decide +kernel
theorem dX6_atom_6 : decode cX6_atom 6 = .ok (.if_icmp .ne 26, 3) := by decide +kernel
theorem dX6_atom_9 : decode cX6_atom 9 = .ok (.aload_n 0, 1) := by decide +kernel
theorem dX6_atom_10 : decode cX6_atom 10 = .ok (.getfield 12, 3) := by decide +kernel
theorem dX6_atom_13 : decode cX6_atom 13 = .ok (.aload_n 0, 1) := by decide +kernel
theorem dX6_atom_14 : decode cX6_atom 14 = .ok (.getfield 29, 3) := by decide +kernel
theorem dX6_atom_17 : decode cX6_atom 17 = .ok (.aload_n 0, 1) := by decide +kernel
theorem dX6_atom_18 : decode cX6_atom 18 = .ok (.getfield 38, 3) := by decide +kernel
theorem dX6_atom_21 : decode cX6_atom 21 = .ok (.iaload, 1) := by decide +kernel
theorem dX6_atom_22 : decode cX6_atom 22 = .ok (.invokevirtual 121, 3) := by decide +kernel
theorem dX6_atom_25 : decode cX6_atom 25 = .ok (.aload_n 0, 1) := by decide +kernel
theorem dX6_atom_26 : decode cX6_atom 26 = .ok (.invokevirtual 84, 3) := by decide +kernel
theorem dX6_atom_29 : decode cX6_atom 29 = .ok (.goto 89, 3) := by decide +kernel
theorem dX6_atom_32 : decode cX6_atom 32 = .ok (.aload_n 0, 1) := by decide +kernel
theorem dX6_atom_33 : decode cX6_atom 33 = .ok (.getfield 41, 3) := by decide +kernel
theorem dX6_atom_36 : decode cX6_atom 36 = .ok (.bipush 7, 2) := by decide +kernel
theorem dX6_atom_38 : decode cX6_atom 38 = .ok (.if_icmp .lt 33, 3) := by decide +kernel
theorem dX6_atom_41 : decode cX6_atom 41 = .ok (.aload_n 0, 1) := by decide +kernel
theorem dX6_atom_42 : decode cX6_atom 42 = .ok (.getfield 41, 3) := by decide +kernel
theorem dX6_atom_45 : decode cX6_atom 45 = .ok (.bipush 14, 2) := by decide +kernel
theorem dX6_atom_47 : decode cX6_atom 47 = .ok (.if_icmp .ge 24, 3) := by decide +kernel
theorem dX6_atom_50 : decode cX6_atom 50 = .ok (.aload_n 0, 1) := by decide +kernel
theorem dX6_atom_51 : decode cX6_atom 51 = .ok (.getfield 12, 3) := by decide +kernel
theorem dX6_atom_54 : decode cX6_atom 54 = .ok (.bipush 6, 2) := by decide +kernel
theorem dX6_atom_56 : decode cX6_atom 56 = .ok (.aload_n 0, 1) := by decide +kernel
theorem dX6_atom_57 : decode cX6_atom 57 = .ok (.getfield 41, 3) := by decide +kernel
theorem dX6_atom_60 : decode cX6_atom 60 = .ok (.isub, 1) := by decide +kernel
theorem dX6_atom_61 : decode cX6_atom 61 = .ok (.invokevirtual 121, 3) := by decide +kernel
theorem dX6_atom_64 : decode cX6_atom 64 = .ok (.aload_n 0, 1) := by decide +kernel
theorem dX6_atom_65 : decode cX6_atom 65 = .ok (.invokevirtual 84, 3) := by decide +kernel
theorem dX6_atom_68 : decode cX6_atom 68 = .ok (.goto 50, 3) := by decide +kernel
theorem dX6_atom_71 : decode cX6_atom 71 = .ok (.aload_n 0, 1) := by decide +kernel
theorem dX6_atom_72 : decode cX6_atom 72 = .ok (.getfield 41, 3) := by decide +kernel
theorem dX6_atom_75 : decode cX6_atom 75 = .ok (.bipush 40, 2) := by decide +kernel
theorem dX6_atom_77 : decode cX6_atom 77 = .ok (.if_icmp .eq 11, 3) := by decide +kernel
theorem dX6_atom_80 : decode cX6_atom 80 = .ok (.aload_n 0, 1) := by decide +kernel
theorem dX6_atom_81 : decode cX6_atom 81 = .ok (.iconst 2, 1) := by decide +kernel
theorem dX6_atom_82 : decode cX6_atom 82 = .ok (.invokevirtual 87, 3) := by decide +kernel
theorem dX6_atom_85 : decode cX6_atom 85 = .ok (.goto 33, 3) := by decide +kernel
theorem dX6_atom_88 : decode cX6_atom 88 = .ok (.iload_n 1, 1) := by decide +kernel
theorem dX6_atom_89 : decode cX6_atom 89 = .ok (.iconst 5, 1) := by decide +kernel
theorem dX6_atom_90 : decode cX6_atom 90 = .ok (.if_icmp .lt 11, 3) := by decide +kernel
theorem dX6_atom_93 : decode cX6_atom 93 = .ok (.aload_n 0, 1) := by decide +kernel
theorem dX6_atom_94 : decode cX6_atom 94 = .ok (.iconst 4, 1) := by decide +kernel
theorem dX6_atom_95 : decode cX6_atom 95 = .ok (.invokevirtual 87, 3) := by decide +kernel
theorem dX6_atom_98 : decode cX6_atom 98 = .ok (.goto 20, 3) := by decide +kernel
theorem dX6_atom_101 : decode cX6_atom 101 = .ok (.aload_n 0, 1) := by decide +kernel
theorem dX6_atom_102 : decode cX6_atom 102 = .ok (.invokevirtual 84, 3) := by decide +kernel
theorem dX6_atom_105 : decode cX6_atom 105 = .ok (.aload_n 0, 1) := by decide +kernel
theorem dX6_atom_106 : decode cX6_atom 106 = .ok (.iload_n 1, 1) := by decide +kernel
theorem dX6_atom_107 : decode cX6_atom 107 = .ok (.iconst 1, 1) := by decide +kernel
theorem dX6_atom_108 : decode cX6_atom 108 = .ok (.iadd, 1) := by decide +kernel
theorem dX6_atom_109 : decode cX6_atom 109 = .ok (.invokevirtual 103, 3) := by decide +kernel
theorem dX6_atom_112 : decode cX6_atom 112 = .ok (.aload_n 0, 1) := by decide +kernel
theorem dX6_atom_113 : decode cX6_atom 113 = .ok (.bipush 41, 2) := by decide +kernel
theorem dX6_atom_115 : decode cX6_atom 115 = .ok (.invokevirtual 115, 3) := by decide +kernel
theorem dX6_atom_118 : decode cX6_atom 118 = .ok (.return_, 1) := by decide +kernel
theorem dX7_init_0 : decode cX7_init 0 = .ok (.aload_n 0, 1) := by decide +kernel
theorem dX7_init_1 : decode cX7_init 1 = .ok (.invokespecial 3, 3) := by decide +kernel
theorem dX7_init_4 : decode cX7_init 4 = .ok (.aload_n 0, 1) := by decide +kernel
theorem dX7_init_5 : decode cX7_init 5 = .ok (.iconst 0, 1) := by decide +kernel
theorem dX7_init_6 : decode cX7_init 6 = .ok (.putfield 9, 3) := by decide +kernel
theorem dX7_init_9 : decode cX7_init 9 = .ok (.aload_n 0, 1) := by decide +kernel
theorem dX7_init_10 : decode cX7_init 10 = .ok (.bipush 12, 2) := by decide +kernel
theorem dX7_init_12 : decode cX7_init 12 = .ok (.newarray .int, 2) := by decide +kernel
theorem dX7_init_14 : decode cX7_init 14 = .ok (.putfield 15, 3) := by decide +kernel
theorem dX7_init_17 : decode cX7_init 17 = .ok (.aload_n 0, 1) := by decide +kernel
theorem dX7_init_18 : decode cX7_init 18 = .ok (.bipush 12, 2) := by decide +kernel
theorem dX7_init_20 : decode cX7_init 20 = .ok (.newarray .int, 2) := by decide +kernel
theorem dX7_init_22 : decode cX7_init 22 = .ok (.putfield 19, 3) := by decide +kernel
theorem dX7_init_25 : decode cX7_init 25 = .ok (.aload_n 0, 1) := by decide +kernel
theorem dX7_init_26 : decode cX7_init 26 = .ok (.bipush 12, 2) := by decide +kernel
theorem dX7_init_28 : decode cX7_init 28 = .ok (.newarray .int, 2) := by decide +kernel
theorem dX7_init_30 : decode cX7_init 30 = .ok (.putfield 22, 3) := by decide +kernel
theorem dX7_init_33 : decode cX7_init 33 = .ok (.aload_n 0, 1) := by decide +kernel
theorem dX7_init_34 : decode cX7_init 34 = .ok (.bipush 12, 2) := by decide +kernel
theorem dX7_init_36 : decode cX7_init 36 = .ok (.newarray .int, 2) := by decide +kernel
theorem dX7_init_38 : decode cX7_init 38 = .ok (.putfield 25, 3) := by decide +kernel
theorem dX7_init_41 : decode cX7_init 41 = .ok (.aload_n 0, 1) := by decide +kernel
theorem dX7_init_42 : decode cX7_init 42 = .ok (.sipush 300, 3) := by decide +kernel
theorem dX7_init_45 : decode cX7_init 45 = .ok (.newarray .int, 2) := by decide +kernel
theorem dX7_init_47 : decode cX7_init 47 = .ok (.putfield 28, 3) := by decide +kernel
theorem dX7_init_50 : decode cX7_init 50 = .ok (.aload_n 0, 1) := by decide +kernel
theorem dX7_init_51 : decode cX7_init 51 = .ok (.iconst 0, 1) := by decide +kernel
theorem dX7_init_52 : decode cX7_init 52 = .ok (.putfield 31, 3) := by decide +kernel
theorem dX7_init_55 : decode cX7_init 55 = .ok (.aload_n 0, 1) := by decide +kernel
theorem dX7_init_56 : decode cX7_init 56 = .ok (.bipush 7, 2) := by decide +kernel
theorem dX7_init_58 : decode cX7_init 58 = .ok (.newarray .long, 2) := by decide +kernel
theorem dX7_init_60 : decode cX7_init 60 = .ok (.putfield 34, 3) := by decide +kernel
theorem dX7_init_63 : decode cX7_init 63 = .ok (.aload_n 0, 1) := by decide +kernel
theorem dX7_init_64 : decode cX7_init 64 = .ok (.sipush 300, 3) := by decide +kernel
theorem dX7_init_67 : decode cX7_init 67 = .ok (.newarray .long, 2) := by decide +kernel
theorem dX7_init_69 : decode cX7_init 69 = .ok (.putfield 38, 3) := by decide +kernel
theorem dX7_init_72 : decode cX7_init 72 = .ok (.return_, 1) := by decide +kernel
theorem dX7_clear_0 : decode cX7_clear 0 = .ok (.aload_n 0, 1) := by decide +kernel
theorem dX7_clear_1 : decode cX7_clear 1 = .ok (.iconst 0, 1) := by decide +kernel
theorem dX7_clear_2 : decode cX7_clear 2 = .ok (.putfield 9, 3) := by decide +kernel
theorem dX7_clear_5 : decode cX7_clear 5 = .ok (.aload_n 0, 1) := by decide +kernel
theorem dX7_clear_6 : decode cX7_clear 6 = .ok (.iconst 0, 1) := by decide +kernel
theorem dX7_clear_7 : decode cX7_clear 7 = .ok (.putfield 31, 3) := by decide +kernel
theorem dX7_clear_10 : decode cX7_clear 10 = .ok (.return_, 1) := by decide +kernel
theorem dX7_emit_0 : decode cX7_emit 0 = .ok (.aload_n 0, 1) := by decide +kernel
theorem dX7_emit_1 : decode cX7_emit 1 = .ok (.getfield 31, 3) := by decide +kernel
theorem dX7_emit_4 : decode cX7_emit 4 = .ok (.sipush 300, 3) := by decide +kernel
theorem dX7_emit_7 : decode cX7_emit 7 = .ok (.if_icmp .ge 23, 3) := by decide +kernel
theorem dX7_emit_10 : decode cX7_emit 10 = .ok (.aload_n 0, 1) := by decide +kernel
theorem dX7_emit_11 : decode cX7_emit 11 = .ok (.getfield 28, 3) := by decide +kernel
theorem dX7_emit_14 : decode cX7_emit 14 = .ok (.aload_n 0, 1) := by decide +kernel
theorem dX7_emit_15 : decode cX7_emit 15 = .ok (.getfield 31, 3) := by decide +kernel
theorem dX7_emit_18 : decode cX7_emit 18 = .ok (.iload_n 1, 1) := by decide +kernel
theorem dX7_emit_19 : decode cX7_emit 19 = .ok (.iastore, 1) := by decide +kernel
theorem dX7_emit_20 : decode cX7_emit 20 = .ok (.aload_n 0, 1) := by decide +kernel
theorem dX7_emit_21 : decode cX7_emit 21 = .ok (.dup, 1) := by decide +kernel
theorem dX7_emit_22 : decode cX7_emit 22 = .ok (.getfield 31, 3) := by decide +kernel
theorem dX7_emit_25 : decode cX7_emit 25 = .ok (.iconst 1, 1) := by decide +kernel
theorem dX7_emit_26 : decode cX7_emit 26 = .ok (.iadd, 1) := by decide +kernel
theorem dX7_emit_27 : decode cX7_emit 27 = .ok (.putfield 31, 3) := by decide +kernel
theorem dX7_emit_30 : decode cX7_emit 30 = .ok (.return_, 1) := by decide +kernel
theorem dX7_copyFrom_0 : decode cX7_copyFrom 0 = .ok (.aload_n 0, 1) := by decide +kernel
theorem dX7_copyFrom_1 : decode cX7_copyFrom 1 = .ok (.aload_n 1, 1) := by decide +kernel
theorem dX7_copyFrom_2 : decode cX7_copyFrom 2 = .ok (.getfield 9, 3) := by decide +kernel
theorem dX7_copyFrom_5 : decode cX7_copyFrom 5 = .ok (.putfield 9, 3) := by decide +kernel
theorem dX7_copyFrom_8 : decode cX7_copyFrom 8 = .ok (.iconst 0, 1) := by decide +kernel
theorem dX7_copyFrom_9 : decode cX7_copyFrom 9 = .ok (.istore_n 2, 1) := by decide +kernel
theorem dX7_copyFrom_10 : decode cX7_copyFrom 10 = .ok (.iload_n 2, 1) := by decide +kernel
theorem dX7_copyFrom_11 : decode cX7_copyFrom 11 = .ok (.aload_n 1, 1) := by decide +kernel
theorem dX7_copyFrom_12 : decode cX7_copyFrom 12 = .ok (.getfield 9, 3) := by decide +kernel
theorem dX7_copyFrom_15 : decode cX7_copyFrom 15 = .ok (.if_icmp .ge 57, 3) := by decide +kernel
theorem dX7_copyFrom_18 : decode cX7_copyFrom 18 = .ok (.aload_n 0, 1) := by decide +kernel
theorem dX7_copyFrom_19 : decode cX7_copyFrom 19 = .ok (.getfield 15, 3) := by decide +kernel
theorem dX7_copyFrom_22 : decode cX7_copyFrom 22 = .ok (.iload_n 2, 1) := by decide +kernel
theorem dX7_copyFrom_23 : decode cX7_copyFrom 23 = .ok (.aload_n 1, 1) := by decide +kernel
theorem dX7_copyFrom_24 : decode cX7_copyFrom 24 = .ok (.getfield 15, 3) := by decide +kernel
theorem dX7_copyFrom_27 : decode cX7_copyFrom 27 = .ok (.iload_n 2, 1) := by decide +kernel
theorem dX7_copyFrom_28 : decode cX7_copyFrom 28 = .ok (.iaload, 1) := by decide +kernel
theorem dX7_copyFrom_29 : decode cX7_copyFrom 29 = .ok (.iastore, 1) := by decide +kernel
theorem dX7_copyFrom_30 : decode cX7_copyFrom 30 = .ok (.aload_n 0, 1) := by decide +kernel
theorem dX7_copyFrom_31 : decode cX7_copyFrom 31 = .ok (.getfield 19, 3) := by decide +kernel
theorem dX7_copyFrom_34 : decode cX7_copyFrom 34 = .ok (.iload_n 2, 1) := by decide +kernel
theorem dX7_copyFrom_35 : decode cX7_copyFrom 35 = .ok (.aload_n 1, 1) := by decide +kernel
theorem dX7_copyFrom_36 : decode cX7_copyFrom 36 = .ok (.getfield 19, 3) := by decide +kernel
theorem dX7_copyFrom_39 : decode cX7_copyFrom 39 = .ok (.iload_n 2, 1) := by decide +kernel
theorem dX7_copyFrom_40 : decode cX7_copyFrom 40 = .ok (.iaload, 1) := by decide +kernel
theorem dX7_copyFrom_41 : decode cX7_copyFrom 41 = .ok (.iastore, 1) := by decide +kernel
theorem dX7_copyFrom_42 : decode cX7_copyFrom 42 = .ok (.aload_n 0, 1) := by decide +kernel
theorem dX7_copyFrom_43 : decode cX7_copyFrom 43 = .ok (.getfield 22, 3) := by decide +kernel
theorem dX7_copyFrom_46 : decode cX7_copyFrom 46 = .ok (.iload_n 2, 1) := by decide +kernel
theorem dX7_copyFrom_47 : decode cX7_copyFrom 47 = .ok (.aload_n 1, 1) := by decide +kernel
theorem dX7_copyFrom_48 : decode cX7_copyFrom 48 = .ok (.getfield 22, 3) := by decide +kernel
theorem dX7_copyFrom_51 : decode cX7_copyFrom 51 = .ok (.iload_n 2, 1) := by decide +kernel
theorem dX7_copyFrom_52 : decode cX7_copyFrom 52 = .ok (.iaload, 1) := by decide +kernel
theorem dX7_copyFrom_53 : decode cX7_copyFrom 53 = .ok (.iastore, 1) := by decide +kernel
theorem dX7_copyFrom_54 : decode cX7_copyFrom 54 = .ok (.aload_n 0, 1) := by decide +kernel
theorem dX7_copyFrom_55 : decode cX7_copyFrom 55 = .ok (.getfield 25, 3) := by decide +kernel
theorem dX7_copyFrom_58 : decode cX7_copyFrom 58 = .ok (.iload_n 2, 1) := by decide +kernel
theorem dX7_copyFrom_59 : decode cX7_copyFrom 59 = .ok (.aload_n 1, 1) := by decide +kernel
theorem dX7_copyFrom_60 : decode cX7_copyFrom 60 = .ok (.getfield 25, 3) := by decide +kernel
theorem dX7_copyFrom_63 : decode cX7_copyFrom 63 = .ok (.iload_n 2, 1) := by decide +kernel
theorem dX7_copyFrom_64 : decode cX7_copyFrom 64 = .ok (.iaload, 1) := by decide +kernel
theorem dX7_copyFrom_65 : decode cX7_copyFrom 65 = .ok (.iastore, 1) := by decide +kernel
theorem dX7_copyFrom_66 : decode cX7_copyFrom 66 = .ok (.iinc 2 1, 3) := by decide +kernel
theorem dX7_copyFrom_69 : decode cX7_copyFrom 69 = .ok (.goto (-59), 3) := by decide +kernel
theorem dX7_copyFrom_72 : decode cX7_copyFrom 72 = .ok (.aload_n 0, 1) := by decide +kernel
theorem dX7_copyFrom_73 : decode cX7_copyFrom 73 = .ok (.aload_n 1, 1) := by decide +kernel
theorem dX7_copyFrom_74 : decode cX7_copyFrom 74 = .ok (.getfield 31, 3) := by decide +kernel
theorem dX7_copyFrom_77 : decode cX7_copyFrom 77 = .ok (.putfield 31, 3) := by decide +kernel
theorem dX7_copyFrom_80 : decode cX7_copyFrom 80 = .ok (.iconst 0, 1) := by decide +kernel
theorem dX7_copyFrom_81 : decode cX7_copyFrom 81 = .ok (.istore_n 2, 1) := by decide +kernel
theorem dX7_copyFrom_82 : decode cX7_copyFrom 82 = .ok (.iload_n 2, 1) := by decide +kernel
theorem dX7_copyFrom_83 : decode cX7_copyFrom 83 = .ok (.aload_n 1, 1) := by decide +kernel
theorem dX7_copyFrom_84 : decode cX7_copyFrom 84 = .ok (.getfield 31, 3) := by decide +kernel
theorem dX7_copyFrom_87 : decode cX7_copyFrom 87 = .ok (.if_icmp .ge 21, 3) := by decide +kernel
theorem dX7_copyFrom_90 : decode cX7_copyFrom 90 = .ok (.aload_n 0, 1) := by decide +kernel
theorem dX7_copyFrom_91 : decode cX7_copyFrom 91 = .ok (.getfield 28, 3) := by decide +kernel
theorem dX7_copyFrom_94 : decode cX7_copyFrom 94 = .ok (.iload_n 2, 1) := by decide +kernel
theorem dX7_copyFrom_95 : decode cX7_copyFrom 95 = .ok (.aload_n 1, 1) := by decide +kernel
theorem dX7_copyFrom_96 : decode cX7_copyFrom 96 = .ok (.getfield 28, 3) := by decide +kernel
theorem dX7_copyFrom_99 : decode cX7_copyFrom 99 = .ok (.iload_n 2, 1) := by decide +kernel
theorem dX7_copyFrom_100 : decode cX7_copyFrom 100 = .ok (.iaload, 1) := by decide +kernel
theorem dX7_copyFrom_101 : decode cX7_copyFrom 101 = .ok (.iastore, 1) := by decide +kernel
theorem dX7_copyFrom_102 : decode cX7_copyFrom 102 = .ok (.iinc 2 1, 3) := by decide +kernel
theorem dX7_copyFrom_105 : decode cX7_copyFrom 105 = .ok (.goto (-23), 3) := by decide +kernel
theorem dX7_copyFrom_108 : decode cX7_copyFrom 108 = .ok (.return_, 1) := by decide +kernel
theorem dX7_lets_0 : decode cX7_lets 0 = .ok (.aload_n 0, 1) := by decide +kernel
theorem dX7_lets_1 : decode cX7_lets 1 = .ok (.getfield 9, 3) := by decide +kernel
theorem dX7_lets_4 : decode cX7_lets 4 = .ok (.iconst 1, 1) := by decide +kernel
theorem dX7_lets_5 : decode cX7_lets 5 = .ok (.isub, 1) := by decide +kernel
theorem dX7_lets_6 : decode cX7_lets 6 = .ok (.istore_n 1, 1) := by decide +kernel
theorem dX7_lets_7 : decode cX7_lets 7 = .ok (.iload_n 1, 1) := by decide +kernel
theorem dX7_lets_8 : decode cX7_lets 8 = .ok (.ifCond .lt 42, 3) := by decide +kernel
theorem dX7_lets_11 : decode cX7_lets 11 = .ok (.aload_n 0, 1) := by decide +kernel
theorem dX7_lets_12 : decode cX7_lets 12 = .ok (.getfield 15, 3) := by decide +kernel
theorem dX7_lets_15 : decode cX7_lets 15 = .ok (.iload_n 1, 1) := by decide +kernel
theorem dX7_lets_16 : decode cX7_lets 16 = .ok (.iaload, 1) := by decide +kernel
theorem dX7_lets_17 : decode cX7_lets 17 = .ok (.iconst 2, 1) := by decide +kernel
theorem dX7_lets_18 : decode cX7_lets 18 = .ok (.if_icmp .eq 26, 3) := by decide +kernel
theorem dX7_lets_21 : decode cX7_lets 21 = .ok (.aload_n 0, 1) := by decide +kernel
theorem dX7_lets_22 : decode cX7_lets 22 = .ok (.iload_n 1, 1) := by decide +kernel
theorem dX7_lets_23 : decode cX7_lets 23 = .ok (.invokevirtual 43, 3) := by decide +kernel
theorem dX7_lets_26 : decode cX7_lets 26 = .ok (.ifCond .eq 18, 3) := by decide +kernel
theorem dX7_lets_29 : decode cX7_lets 29 = .ok (.aload_n 0, 1) := by decide +kernel
theorem dX7_lets_30 : decode cX7_lets 30 = .ok (.getfield 15, 3) := by decide +kernel
theorem dX7_lets_33 : decode cX7_lets 33 = .ok (.iload_n 1, 1) := by decide +kernel
theorem dX7_lets_34 : decode cX7_lets 34 = .ok (.iaload, 1) := by decide +kernel
theorem dX7_lets_35 : decode cX7_lets 35 = .ok (.ifCond .ne 7, 3) := by decide +kernel
theorem dX7_lets_38 : decode cX7_lets 38 = .ok (.iconst 1, 1) := by decide +kernel
theorem dX7_lets_39 : decode cX7_lets 39 = .ok (.goto 4, 3) := by decide +kernel
theorem dX7_lets_42 : decode cX7_lets 42 = .ok (.iconst 0, 1) := by decide +kernel
theorem dX7_lets_43 : decode cX7_lets 43 = .ok (.ireturn, 1) := by decide +kernel
theorem dX7_lets_44 : decode cX7_lets 44 = .ok (.iinc 1 (-1), 3) := by decide +kernel
theorem dX7_lets_47 : decode cX7_lets 47 = .ok (.goto (-40), 3) := by decide +kernel
theorem dX7_lets_50 : decode cX7_lets 50 = .ok (.iconst 0, 1) := by decide +kernel
theorem dX7_lets_51 : decode cX7_lets 51 = .ok (.ireturn, 1) := by decide +kernel
theorem dX7_keeps_0 : decode cX7_keeps 0 = .ok (.aload_n 0, 1) := by decide +kernel
theorem dX7_keeps_1 : decode cX7_keeps 1 = .ok (.getfield 9, 3) := by decide +kernel
theorem dX7_keeps_4 : decode cX7_keeps 4 = .ok (.iconst 1, 1) := by decide +kernel
theorem dX7_keeps_5 : decode cX7_keeps 5 = .ok (.isub, 1) := by decide +kernel
theorem dX7_keeps_6 : decode cX7_keeps 6 = .ok (.istore_n 1, 1) := by decide +kernel
theorem dX7_keeps_7 : decode cX7_keeps 7 = .ok (.iload_n 1, 1) := by decide +kernel
theorem dX7_keeps_8 : decode cX7_keeps 8 = .ok (.ifCond .lt 57, 3) := by decide +kernel
theorem dX7_keeps_11 : decode cX7_keeps 11 = .ok (.aload_n 0, 1) := by decide +kernel
theorem dX7_keeps_12 : decode cX7_keeps 12 = .ok (.getfield 15, 3) := by decide +kernel
theorem dX7_keeps_15 : decode cX7_keeps 15 = .ok (.iload_n 1, 1) := by decide +kernel
theorem dX7_keeps_16 : decode cX7_keeps 16 = .ok (.iaload, 1) := by decide +kernel
theorem dX7_keeps_17 : decode cX7_keeps 17 = .ok (.iconst 2, 1) := by decide +kernel
theorem dX7_keeps_18 : decode cX7_keeps 18 = .ok (.if_icmp .ne 41, 3) := by decide +kernel
theorem dX7_keeps_21 : decode cX7_keeps 21 = .ok (.aload_n 0, 1) := by decide +kernel
theorem dX7_keeps_22 : decode cX7_keeps 22 = .ok (.iload_n 1, 1) := by decide +kernel
theorem dX7_keeps_23 : decode cX7_keeps 23 = .ok (.invokevirtual 43, 3) := by decide +kernel
theorem dX7_keeps_26 : decode cX7_keeps 26 = .ok (.ifCond .eq 33, 3) := by decide +kernel
theorem dX7_keeps_29 : decode cX7_keeps 29 = .ok (.aload_n 0, 1) := by decide +kernel
theorem dX7_keeps_30 : decode cX7_keeps 30 = .ok (.aload_n 0, 1) := by decide +kernel
theorem dX7_keeps_31 : decode cX7_keeps 31 = .ok (.getfield 19, 3) := by decide +kernel
theorem dX7_keeps_34 : decode cX7_keeps 34 = .ok (.iload_n 1, 1) := by decide +kernel
theorem dX7_keeps_35 : decode cX7_keeps 35 = .ok (.iaload, 1) := by decide +kernel
theorem dX7_keeps_36 : decode cX7_keeps 36 = .ok (.aload_n 0, 1) := by decide +kernel
theorem dX7_keeps_37 : decode cX7_keeps 37 = .ok (.getfield 22, 3) := by decide +kernel
theorem dX7_keeps_40 : decode cX7_keeps 40 = .ok (.iload_n 1, 1) := by decide +kernel
theorem dX7_keeps_41 : decode cX7_keeps 41 = .ok (.iaload, 1) := by decide +kernel
theorem dX7_keeps_42 : decode cX7_keeps 42 = .ok (.invokevirtual 47, 3) := by decide +kernel
theorem dX7_keeps_45 : decode cX7_keeps 45 = .ok (.lstore_n 2, 1) := by decide +kernel
theorem dX7_keeps_46 : decode cX7_keeps 46 = .ok (.lconst 1, 1) := by decide +kernel
theorem dX7_keeps_47 : decode cX7_keeps 47 = .ok (.ldc2_w 51, 3) := by decide +kernel
theorem dX7_keeps_50 : decode cX7_keeps 50 = .ok (.lload_n 2, 1) := by decide +kernel
theorem dX7_keeps_51 : decode cX7_keeps 51 = .ok (.invokestatic 53, 3) := by decide +kernel
theorem dX7_keeps_54 : decode cX7_keeps 54 = .ok (.invokestatic 59, 3) := by decide +kernel
theorem dX7_keeps_57 : decode cX7_keeps 57 = .ok (.l2i, 1) := by decide +kernel
theorem dX7_keeps_58 : decode cX7_keeps 58 = .ok (.ireturn, 1) := by decide +kernel
theorem dX7_keeps_59 : decode cX7_keeps 59 = .ok (.iinc 1 (-1), 3) := by decide +kernel
theorem dX7_keeps_62 : decode cX7_keeps 62 = .ok (.goto (-55), 3) := by decide +kernel
theorem dX7_keeps_65 : decode cX7_keeps 65 = .ok (.iconst (-1), 1) := by decide +kernel
theorem dX7_keeps_66 : decode cX7_keeps 66 = .ok (.ireturn, 1) := by decide +kernel
theorem dX7_holds_0 : decode cX7_holds 0 = .ok (.aload_n 0, 1) := by decide +kernel
theorem dX7_holds_1 : decode cX7_holds 1 = .ok (.getfield 22, 3) := by decide +kernel
theorem dX7_holds_4 : decode cX7_holds 4 = .ok (.iload_n 1, 1) := by decide +kernel
theorem dX7_holds_5 : decode cX7_holds 5 = .ok (.iaload, 1) := by decide +kernel
theorem dX7_holds_6 : decode cX7_holds 6 = .ok (.aload_n 0, 1) := by decide +kernel
theorem dX7_holds_7 : decode cX7_holds 7 = .ok (.getfield 25, 3) := by decide +kernel
theorem dX7_holds_10 : decode cX7_holds 10 = .ok (.iload_n 1, 1) := by decide +kernel
theorem dX7_holds_11 : decode cX7_holds 11 = .ok (.iaload, 1) := by decide +kernel
theorem dX7_holds_12 : decode cX7_holds 12 = .ok (.if_icmp .ge 24, 3) := by decide +kernel
theorem dX7_holds_15 : decode cX7_holds 15 = .ok (.aload_n 0, 1) := by decide +kernel
theorem dX7_holds_16 : decode cX7_holds 16 = .ok (.aload_n 0, 1) := by decide +kernel
theorem dX7_holds_17 : decode cX7_holds 17 = .ok (.getfield 22, 3) := by decide +kernel
theorem dX7_holds_20 : decode cX7_holds 20 = .ok (.iload_n 1, 1) := by decide +kernel
theorem dX7_holds_21 : decode cX7_holds 21 = .ok (.iaload, 1) := by decide +kernel
theorem dX7_holds_22 : decode cX7_holds 22 = .ok (.aload_n 0, 1) := by decide +kernel
theorem dX7_holds_23 : decode cX7_holds 23 = .ok (.getfield 25, 3) := by decide +kernel
theorem dX7_holds_26 : decode cX7_holds 26 = .ok (.iload_n 1, 1) := by decide +kernel
theorem dX7_holds_27 : decode cX7_holds 27 = .ok (.iaload, 1) := by decide +kernel
theorem dX7_holds_28 : decode cX7_holds 28 = .ok (.invokevirtual 47, 3) := by decide +kernel
theorem dX7_holds_31 : decode cX7_holds 31 = .ok (.lconst 0, 1) := by decide +kernel
theorem dX7_holds_32 : decode cX7_holds 32 = .ok (.lcmp, 1) := by decide +kernel
theorem dX7_holds_33 : decode cX7_holds 33 = .ok (.ifCond .eq 7, 3) := by decide +kernel
theorem dX7_holds_36 : decode cX7_holds 36 = .ok (.iconst 1, 1) := by decide +kernel
theorem dX7_holds_37 : decode cX7_holds 37 = .ok (.goto 4, 3) := by decide +kernel
theorem dX7_holds_40 : decode cX7_holds 40 = .ok (.iconst 0, 1) := by decide +kernel
theorem dX7_holds_41 : decode cX7_holds 41 = .ok (.ireturn, 1) := by decide +kernel
theorem dX7_work_0 : decode cX7_work 0 = .ok (.iconst 0, 1) := by decide +kernel
theorem dX7_work_1 : decode cX7_work 1 = .ok (.istore_n 3, 1) := by decide +kernel
theorem dX7_work_2 : decode cX7_work 2 = .ok (.iload_n 1, 1) := by decide +kernel
theorem dX7_work_3 : decode cX7_work 3 = .ok (.istore 4, 2) := by decide +kernel
theorem dX7_work_5 : decode cX7_work 5 = .ok (.iload 4, 2) := by decide +kernel
theorem dX7_work_7 : decode cX7_work 7 = .ok (.iload_n 2, 1) := by decide +kernel
theorem dX7_work_8 : decode cX7_work 8 = .ok (.if_icmp .ge 141, 3) := by decide +kernel
theorem dX7_work_11 : decode cX7_work 11 = .ok (.iload 4, 2) := by decide +kernel
theorem dX7_work_13 : decode cX7_work 13 = .ok (.sipush 300, 3) := by decide +kernel
theorem dX7_work_16 : decode cX7_work 16 = .ok (.if_icmp .ge 133, 3) := by decide +kernel
theorem dX7_work_19 : decode cX7_work 19 = .ok (.aload_n 0, 1) := by decide +kernel
theorem dX7_work_20 : decode cX7_work 20 = .ok (.getfield 28, 3) := by decide +kernel
theorem dX7_work_23 : decode cX7_work 23 = .ok (.iload 4, 2) := by decide +kernel
theorem dX7_work_25 : decode cX7_work 25 = .ok (.iaload, 1) := by decide +kernel
theorem dX7_work_26 : decode cX7_work 26 = .ok (.istore 5, 2) := by decide +kernel
theorem dX7_work_28 : decode cX7_work 28 = .ok (.iload 5, 2) := by decide +kernel
theorem dX7_work_30 : decode cX7_work 30 = .ok (.bipush (-7), 2) := by decide +kernel
theorem dX7_work_32 : decode cX7_work 32 = .ok (.if_icmp .lt 42, 3) := by decide +kernel
theorem dX7_work_35 : decode cX7_work 35 = .ok (.iload_n 3, 1) := by decide +kernel
theorem dX7_work_36 : decode cX7_work 36 = .ok (.sipush 300, 3) := by decide +kernel
theorem dX7_work_39 : decode cX7_work 39 = .ok (.if_icmp .ge 35, 3) := by decide +kernel
theorem dX7_work_42 : decode cX7_work 42 = .ok (.aload_n 0, 1) := by decide +kernel
theorem dX7_work_43 : decode cX7_work 43 = .ok (.getfield 38, 3) := by decide +kernel
theorem dX7_work_46 : decode cX7_work 46 = .ok (.iload_n 3, 1) := by decide +kernel
theorem dX7_work_47 : decode cX7_work 47 = .ok (.iload 5, 2) := by decide +kernel
theorem dX7_work_49 : decode cX7_work 49 = .ok (.ifCond .lt 9, 3) := by decide +kernel
theorem dX7_work_52 : decode cX7_work 52 = .ok (.iload 5, 2) := by decide +kernel
theorem dX7_work_54 : decode cX7_work 54 = .ok (.i2l, 1) := by decide +kernel
theorem dX7_work_55 : decode cX7_work 55 = .ok (.goto 12, 3) := by decide +kernel
theorem dX7_work_58 : decode cX7_work 58 = .ok (.aload_n 0, 1) := by decide +kernel
theorem dX7_work_59 : decode cX7_work 59 = .ok (.getfield 34, 3) := by decide +kernel
theorem dX7_work_62 : decode cX7_work 62 = .ok (.iconst (-1), 1) := by decide +kernel
theorem dX7_work_63 : decode cX7_work 63 = .ok (.iload 5, 2) := by decide +kernel
theorem dX7_work_65 : decode cX7_work 65 = .ok (.isub, 1) := by decide +kernel
theorem dX7_work_66 : decode cX7_work 66 = .ok (.laload, 1) := by decide +kernel
theorem dX7_work_67 : decode cX7_work 67 = .ok (.lastore, 1) := by decide +kernel
theorem dX7_work_68 : decode cX7_work 68 = .ok (.iinc 3 1, 3) := by decide +kernel
theorem dX7_work_71 : decode cX7_work 71 = .ok (.goto 72, 3) := by decide +kernel
theorem dX7_work_74 : decode cX7_work 74 = .ok (.iload 5, 2) := by decide +kernel
theorem dX7_work_76 : decode cX7_work 76 = .ok (.bipush (-22), 2) := by decide +kernel
theorem dX7_work_78 : decode cX7_work 78 = .ok (.if_icmp .ne 29, 3) := by decide +kernel
theorem dX7_work_81 : decode cX7_work 81 = .ok (.iload_n 3, 1) := by decide +kernel
theorem dX7_work_82 : decode cX7_work 82 = .ok (.iconst 1, 1) := by decide +kernel
theorem dX7_work_83 : decode cX7_work 83 = .ok (.if_icmp .lt 24, 3) := by decide +kernel
theorem dX7_work_86 : decode cX7_work 86 = .ok (.aload_n 0, 1) := by decide +kernel
theorem dX7_work_87 : decode cX7_work 87 = .ok (.getfield 38, 3) := by decide +kernel
theorem dX7_work_90 : decode cX7_work 90 = .ok (.iload_n 3, 1) := by decide +kernel
theorem dX7_work_91 : decode cX7_work 91 = .ok (.iconst 1, 1) := by decide +kernel
theorem dX7_work_92 : decode cX7_work 92 = .ok (.isub, 1) := by decide +kernel
theorem dX7_work_93 : decode cX7_work 93 = .ok (.lconst 1, 1) := by decide +kernel
theorem dX7_work_94 : decode cX7_work 94 = .ok (.aload_n 0, 1) := by decide +kernel
theorem dX7_work_95 : decode cX7_work 95 = .ok (.getfield 38, 3) := by decide +kernel
theorem dX7_work_98 : decode cX7_work 98 = .ok (.iload_n 3, 1) := by decide +kernel
theorem dX7_work_99 : decode cX7_work 99 = .ok (.iconst 1, 1) := by decide +kernel
theorem dX7_work_100 : decode cX7_work 100 = .ok (.isub, 1) := by decide +kernel
theorem dX7_work_101 : decode cX7_work 101 = .ok (.laload, 1) := by decide +kernel
theorem dX7_work_102 : decode cX7_work 102 = .ok (.lsub, 1) := by decide +kernel
theorem dX7_work_103 : decode cX7_work 103 = .ok (.lastore, 1) := by decide +kernel
theorem dX7_work_104 : decode cX7_work 104 = .ok (.goto 39, 3) := by decide +kernel
theorem dX7_work_107 : decode cX7_work 107 = .ok (.iload_n 3, 1) := by decide +kernel
theorem dX7_work_108 : decode cX7_work 108 = .ok (.iconst 2, 1) := by decide +kernel
theorem dX7_work_109 : decode cX7_work 109 = .ok (.if_icmp .lt 34, 3) := by decide +kernel
theorem dX7_work_112 : decode cX7_work 112 = .ok (.iinc 3 (-1), 3) := by decide +kernel
theorem dX7_work_115 : decode cX7_work 115 = .ok (.aload_n 0, 1) := by decide +kernel
theorem dX7_work_116 : decode cX7_work 116 = .ok (.getfield 38, 3) := by decide +kernel
theorem dX7_work_119 : decode cX7_work 119 = .ok (.iload_n 3, 1) := by decide +kernel
theorem dX7_work_120 : decode cX7_work 120 = .ok (.iconst 1, 1) := by decide +kernel
theorem dX7_work_121 : decode cX7_work 121 = .ok (.isub, 1) := by decide +kernel
theorem dX7_work_122 : decode cX7_work 122 = .ok (.aload_n 0, 1) := by decide +kernel
theorem dX7_work_123 : decode cX7_work 123 = .ok (.iload 5, 2) := by decide +kernel
theorem dX7_work_125 : decode cX7_work 125 = .ok (.aload_n 0, 1) := by decide +kernel
theorem dX7_work_126 : decode cX7_work 126 = .ok (.getfield 38, 3) := by decide +kernel
theorem dX7_work_129 : decode cX7_work 129 = .ok (.iload_n 3, 1) := by decide +kernel
theorem dX7_work_130 : decode cX7_work 130 = .ok (.iconst 1, 1) := by decide +kernel
theorem dX7_work_131 : decode cX7_work 131 = .ok (.isub, 1) := by decide +kernel
theorem dX7_work_132 : decode cX7_work 132 = .ok (.laload, 1) := by decide +kernel
theorem dX7_work_133 : decode cX7_work 133 = .ok (.aload_n 0, 1) := by decide +kernel
theorem dX7_work_134 : decode cX7_work 134 = .ok (.getfield 38, 3) := by decide +kernel
theorem dX7_work_137 : decode cX7_work 137 = .ok (.iload_n 3, 1) := by decide +kernel
theorem dX7_work_138 : decode cX7_work 138 = .ok (.laload, 1) := by decide +kernel
theorem dX7_work_139 : decode cX7_work 139 = .ok (.invokevirtual 62, 3) := by decide +kernel
theorem dX7_work_142 : decode cX7_work 142 = .ok (.lastore, 1) := by decide +kernel
theorem dX7_work_143 : decode cX7_work 143 = .ok (.iinc 4 1, 3) := by decide +kernel
theorem dX7_work_146 : decode cX7_work 146 = .ok (.goto (-141), 3) := by decide +kernel
theorem dX7_work_149 : decode cX7_work 149 = .ok (.iload_n 3, 1) := by decide +kernel
theorem dX7_work_150 : decode cX7_work 150 = .ok (.ifCond .le 12, 3) := by decide +kernel
theorem dX7_work_153 : decode cX7_work 153 = .ok (.aload_n 0, 1) := by decide +kernel
theorem dX7_work_154 : decode cX7_work 154 = .ok (.getfield 38, 3) := by decide +kernel
theorem dX7_work_157 : decode cX7_work 157 = .ok (.iconst 0, 1) := by decide +kernel
theorem dX7_work_158 : decode cX7_work 158 = .ok (.laload, 1) := by decide +kernel
theorem dX7_work_159 : decode cX7_work 159 = .ok (.goto 4, 3) := by decide +kernel
theorem dX7_work_162 : decode cX7_work 162 = .ok (.lconst 0, 1) := by decide +kernel
theorem dX7_work_163 : decode cX7_work 163 = .ok (.lreturn, 1) := by decide +kernel
theorem dX7_joinedBy_0 : decode cX7_joinedBy 0 = .ok (.iload_n 1, 1) := by decide +kernel
theorem dX7_joinedBy_1 : decode cX7_joinedBy 1 = .ok (.ineg, 1) := by decide +kernel
theorem dX7_joinedBy_2 : decode cX7_joinedBy 2 = .ok (.lookupswitch 112 #[(42, 68), (43, 58), (45, 63), (60, 73), (61, 99), (62, 86)], 58) := by decide +kernel
theorem dX7_joinedBy_60 : decode cX7_joinedBy 60 = .ok (.lload_n 2, 1) := by decide +kernel
theorem dX7_joinedBy_61 : decode cX7_joinedBy 61 = .ok (.lload 4, 2) := by decide +kernel
theorem dX7_joinedBy_63 : decode cX7_joinedBy 63 = .ok (.ladd, 1) := by decide +kernel
theorem dX7_joinedBy_64 : decode cX7_joinedBy 64 = .ok (.lreturn, 1) := by decide +kernel
theorem dX7_joinedBy_65 : decode cX7_joinedBy 65 = .ok (.lload_n 2, 1) := by decide +kernel
theorem dX7_joinedBy_66 : decode cX7_joinedBy 66 = .ok (.lload 4, 2) := by decide +kernel
theorem dX7_joinedBy_68 : decode cX7_joinedBy 68 = .ok (.lsub, 1) := by decide +kernel
theorem dX7_joinedBy_69 : decode cX7_joinedBy 69 = .ok (.lreturn, 1) := by decide +kernel
theorem dX7_joinedBy_70 : decode cX7_joinedBy 70 = .ok (.lload_n 2, 1) := by decide +kernel
theorem dX7_joinedBy_71 : decode cX7_joinedBy 71 = .ok (.lload 4, 2) := by decide +kernel
theorem dX7_joinedBy_73 : decode cX7_joinedBy 73 = .ok (.lmul, 1) := by decide +kernel
theorem dX7_joinedBy_74 : decode cX7_joinedBy 74 = .ok (.lreturn, 1) := by decide +kernel
theorem dX7_joinedBy_75 : decode cX7_joinedBy 75 = .ok (.lload_n 2, 1) := by decide +kernel
theorem dX7_joinedBy_76 : decode cX7_joinedBy 76 = .ok (.lload 4, 2) := by decide +kernel
theorem dX7_joinedBy_78 : decode cX7_joinedBy 78 = .ok (.lcmp, 1) := by decide +kernel
theorem dX7_joinedBy_79 : decode cX7_joinedBy 79 = .ok (.ifCond .ge 7, 3) := by decide +kernel
theorem dX7_joinedBy_82 : decode cX7_joinedBy 82 = .ok (.lconst 1, 1) := by decide +kernel
theorem dX7_joinedBy_83 : decode cX7_joinedBy 83 = .ok (.goto 4, 3) := by decide +kernel
theorem dX7_joinedBy_86 : decode cX7_joinedBy 86 = .ok (.lconst 0, 1) := by decide +kernel
theorem dX7_joinedBy_87 : decode cX7_joinedBy 87 = .ok (.lreturn, 1) := by decide +kernel
theorem dX7_joinedBy_88 : decode cX7_joinedBy 88 = .ok (.lload_n 2, 1) := by decide +kernel
theorem dX7_joinedBy_89 : decode cX7_joinedBy 89 = .ok (.lload 4, 2) := by decide +kernel
theorem dX7_joinedBy_91 : decode cX7_joinedBy 91 = .ok (.lcmp, 1) := by decide +kernel
theorem dX7_joinedBy_92 : decode cX7_joinedBy 92 = .ok (.ifCond .le 7, 3) := by decide +kernel
theorem dX7_joinedBy_95 : decode cX7_joinedBy 95 = .ok (.lconst 1, 1) := by decide +kernel
theorem dX7_joinedBy_96 : decode cX7_joinedBy 96 = .ok (.goto 4, 3) := by decide +kernel
theorem dX7_joinedBy_99 : decode cX7_joinedBy 99 = .ok (.lconst 0, 1) := by decide +kernel
theorem dX7_joinedBy_100 : decode cX7_joinedBy 100 = .ok (.lreturn, 1) := by decide +kernel
theorem dX7_joinedBy_101 : decode cX7_joinedBy 101 = .ok (.lload_n 2, 1) := by decide +kernel
theorem dX7_joinedBy_102 : decode cX7_joinedBy 102 = .ok (.lload 4, 2) := by decide +kernel
theorem dX7_joinedBy_104 : decode cX7_joinedBy 104 = .ok (.lcmp, 1) := by decide +kernel
theorem dX7_joinedBy_105 : decode cX7_joinedBy 105 = .ok (.ifCond .ne 7, 3) := by decide +kernel
theorem dX7_joinedBy_108 : decode cX7_joinedBy 108 = .ok (.lconst 1, 1) := by decide +kernel
theorem dX7_joinedBy_109 : decode cX7_joinedBy 109 = .ok (.goto 4, 3) := by decide +kernel
theorem dX7_joinedBy_112 : decode cX7_joinedBy 112 = .ok (.lconst 0, 1) := by decide +kernel
theorem dX7_joinedBy_113 : decode cX7_joinedBy 113 = .ok (.lreturn, 1) := by decide +kernel
theorem dX7_joinedBy_114 : decode cX7_joinedBy 114 = .ok (.iload_n 1, 1) := by decide +kernel
theorem dX7_joinedBy_115 : decode cX7_joinedBy 115 = .ok (.bipush (-20), 2) := by decide +kernel
theorem dX7_joinedBy_117 : decode cX7_joinedBy 117 = .ok (.if_icmp .ne 10, 3) := by decide +kernel
theorem dX7_joinedBy_120 : decode cX7_joinedBy 120 = .ok (.lload_n 2, 1) := by decide +kernel
theorem dX7_joinedBy_121 : decode cX7_joinedBy 121 = .ok (.lload 4, 2) := by decide +kernel
theorem dX7_joinedBy_123 : decode cX7_joinedBy 123 = .ok (.lor, 1) := by decide +kernel
theorem dX7_joinedBy_124 : decode cX7_joinedBy 124 = .ok (.goto 7, 3) := by decide +kernel
theorem dX7_joinedBy_127 : decode cX7_joinedBy 127 = .ok (.lload_n 2, 1) := by decide +kernel
theorem dX7_joinedBy_128 : decode cX7_joinedBy 128 = .ok (.lload 4, 2) := by decide +kernel
theorem dX7_joinedBy_130 : decode cX7_joinedBy 130 = .ok (.land, 1) := by decide +kernel
theorem dX7_joinedBy_131 : decode cX7_joinedBy 131 = .ok (.lreturn, 1) := by decide +kernel
theorem dX8_init_0 : decode cX8_init 0 = .ok (.aload_n 0, 1) := by decide +kernel
theorem dX8_init_1 : decode cX8_init 1 = .ok (.invokespecial 3, 3) := by decide +kernel
theorem dX8_init_4 : decode cX8_init 4 = .ok (.aload_n 0, 1) := by decide +kernel
theorem dX8_init_5 : decode cX8_init 5 = .ok (.bipush 16, 2) := by decide +kernel
theorem dX8_init_7 : decode cX8_init 7 = .ok (.newarray .long, 2) := by decide +kernel
theorem dX8_init_9 : decode cX8_init 9 = .ok (.putfield 9, 3) := by decide +kernel
theorem dX8_init_12 : decode cX8_init 12 = .ok (.aload_n 0, 1) := by decide +kernel
theorem dX8_init_13 : decode cX8_init 13 = .ok (.bipush 16, 2) := by decide +kernel
theorem dX8_init_15 : decode cX8_init 15 = .ok (.newarray .long, 2) := by decide +kernel
theorem dX8_init_17 : decode cX8_init 17 = .ok (.putfield 15, 3) := by decide +kernel
theorem dX8_init_20 : decode cX8_init 20 = .ok (.aload_n 0, 1) := by decide +kernel
theorem dX8_init_21 : decode cX8_init 21 = .ok (.bipush 16, 2) := by decide +kernel
theorem dX8_init_23 : decode cX8_init 23 = .ok (.newarray .long, 2) := by decide +kernel
theorem dX8_init_25 : decode cX8_init 25 = .ok (.putfield 18, 3) := by decide +kernel
theorem dX8_init_28 : decode cX8_init 28 = .ok (.return_, 1) := by decide +kernel
theorem dX8_stateOf_0 : decode cX8_stateOf 0 = .ok (.aload_n 0, 1) := by decide +kernel
theorem dX8_stateOf_1 : decode cX8_stateOf 1 = .ok (.getfield 9, 3) := by decide +kernel
theorem dX8_stateOf_4 : decode cX8_stateOf 4 = .ok (.iload_n 2, 1) := by decide +kernel
theorem dX8_stateOf_5 : decode cX8_stateOf 5 = .ok (.laload, 1) := by decide +kernel
theorem dX8_stateOf_6 : decode cX8_stateOf 6 = .ok (.iload_n 1, 1) := by decide +kernel
theorem dX8_stateOf_7 : decode cX8_stateOf 7 = .ok (.invokestatic 21, 3) := by decide +kernel
theorem dX8_stateOf_10 : decode cX8_stateOf 10 = .ok (.ifCond .eq 22, 3) := by decide +kernel
theorem dX8_stateOf_13 : decode cX8_stateOf 13 = .ok (.aload_n 0, 1) := by decide +kernel
theorem dX8_stateOf_14 : decode cX8_stateOf 14 = .ok (.getfield 15, 3) := by decide +kernel
theorem dX8_stateOf_17 : decode cX8_stateOf 17 = .ok (.iload_n 2, 1) := by decide +kernel
theorem dX8_stateOf_18 : decode cX8_stateOf 18 = .ok (.laload, 1) := by decide +kernel
theorem dX8_stateOf_19 : decode cX8_stateOf 19 = .ok (.iload_n 1, 1) := by decide +kernel
theorem dX8_stateOf_20 : decode cX8_stateOf 20 = .ok (.invokestatic 21, 3) := by decide +kernel
theorem dX8_stateOf_23 : decode cX8_stateOf 23 = .ok (.ifCond .eq 7, 3) := by decide +kernel
theorem dX8_stateOf_26 : decode cX8_stateOf 26 = .ok (.iconst 2, 1) := by decide +kernel
theorem dX8_stateOf_27 : decode cX8_stateOf 27 = .ok (.goto 4, 3) := by decide +kernel
theorem dX8_stateOf_30 : decode cX8_stateOf 30 = .ok (.iconst 1, 1) := by decide +kernel
theorem dX8_stateOf_31 : decode cX8_stateOf 31 = .ok (.ireturn, 1) := by decide +kernel
theorem dX8_stateOf_32 : decode cX8_stateOf 32 = .ok (.aload_n 0, 1) := by decide +kernel
theorem dX8_stateOf_33 : decode cX8_stateOf 33 = .ok (.getfield 18, 3) := by decide +kernel
theorem dX8_stateOf_36 : decode cX8_stateOf 36 = .ok (.iload_n 2, 1) := by decide +kernel
theorem dX8_stateOf_37 : decode cX8_stateOf 37 = .ok (.laload, 1) := by decide +kernel
theorem dX8_stateOf_38 : decode cX8_stateOf 38 = .ok (.iload_n 1, 1) := by decide +kernel
theorem dX8_stateOf_39 : decode cX8_stateOf 39 = .ok (.invokestatic 21, 3) := by decide +kernel
theorem dX8_stateOf_42 : decode cX8_stateOf 42 = .ok (.ifCond .eq 7, 3) := by decide +kernel
theorem dX8_stateOf_45 : decode cX8_stateOf 45 = .ok (.iconst 3, 1) := by decide +kernel
theorem dX8_stateOf_46 : decode cX8_stateOf 46 = .ok (.goto 4, 3) := by decide +kernel
theorem dX8_stateOf_49 : decode cX8_stateOf 49 = .ok (.iconst 0, 1) := by decide +kernel
theorem dX8_stateOf_50 : decode cX8_stateOf 50 = .ok (.ireturn, 1) := by decide +kernel
theorem dX8_put_0 : decode cX8_put 0 = .ok (.iload_n 1, 1) := by decide +kernel
theorem dX8_put_1 : decode cX8_put 1 = .ok (.invokestatic 25, 3) := by decide +kernel
theorem dX8_put_4 : decode cX8_put 4 = .ok (.ldc2_w 29, 3) := by decide +kernel
theorem dX8_put_7 : decode cX8_put 7 = .ok (.lxor, 1) := by decide +kernel
theorem dX8_put_8 : decode cX8_put 8 = .ok (.lstore 4, 2) := by decide +kernel
theorem dX8_put_10 : decode cX8_put 10 = .ok (.aload_n 0, 1) := by decide +kernel
theorem dX8_put_11 : decode cX8_put 11 = .ok (.getfield 9, 3) := by decide +kernel
theorem dX8_put_14 : decode cX8_put 14 = .ok (.iload_n 2, 1) := by decide +kernel
theorem dX8_put_15 : decode cX8_put 15 = .ok (.dup2, 1) := by decide +kernel
theorem dX8_put_16 : decode cX8_put 16 = .ok (.laload, 1) := by decide +kernel
theorem dX8_put_17 : decode cX8_put 17 = .ok (.lload 4, 2) := by decide +kernel
theorem dX8_put_19 : decode cX8_put 19 = .ok (.land, 1) := by decide +kernel
theorem dX8_put_20 : decode cX8_put 20 = .ok (.lastore, 1) := by decide +kernel
theorem dX8_put_21 : decode cX8_put 21 = .ok (.aload_n 0, 1) := by decide +kernel
theorem dX8_put_22 : decode cX8_put 22 = .ok (.getfield 15, 3) := by decide +kernel
theorem dX8_put_25 : decode cX8_put 25 = .ok (.iload_n 2, 1) := by decide +kernel
theorem dX8_put_26 : decode cX8_put 26 = .ok (.dup2, 1) := by decide +kernel
theorem dX8_put_27 : decode cX8_put 27 = .ok (.laload, 1) := by decide +kernel
theorem dX8_put_28 : decode cX8_put 28 = .ok (.lload 4, 2) := by decide +kernel
theorem dX8_put_30 : decode cX8_put 30 = .ok (.land, 1) := by decide +kernel
theorem dX8_put_31 : decode cX8_put 31 = .ok (.lastore, 1) := by decide +kernel
theorem dX8_put_32 : decode cX8_put 32 = .ok (.aload_n 0, 1) := by decide +kernel
theorem dX8_put_33 : decode cX8_put 33 = .ok (.getfield 18, 3) := by decide +kernel
theorem dX8_put_36 : decode cX8_put 36 = .ok (.iload_n 2, 1) := by decide +kernel
theorem dX8_put_37 : decode cX8_put 37 = .ok (.dup2, 1) := by decide +kernel
theorem dX8_put_38 : decode cX8_put 38 = .ok (.laload, 1) := by decide +kernel
theorem dX8_put_39 : decode cX8_put 39 = .ok (.lload 4, 2) := by decide +kernel
theorem dX8_put_41 : decode cX8_put 41 = .ok (.land, 1) := by decide +kernel
theorem dX8_put_42 : decode cX8_put 42 = .ok (.lastore, 1) := by decide +kernel
theorem dX8_put_43 : decode cX8_put 43 = .ok (.iload_n 3, 1) := by decide +kernel
theorem dX8_put_44 : decode cX8_put 44 = .ok (.iconst 1, 1) := by decide +kernel
theorem dX8_put_45 : decode cX8_put 45 = .ok (.if_icmp .eq 8, 3) := by decide +kernel
theorem dX8_put_48 : decode cX8_put 48 = .ok (.iload_n 3, 1) := by decide +kernel
theorem dX8_put_49 : decode cX8_put 49 = .ok (.iconst 2, 1) := by decide +kernel
theorem dX8_put_50 : decode cX8_put 50 = .ok (.if_icmp .ne 16, 3) := by decide +kernel
theorem dX8_put_53 : decode cX8_put 53 = .ok (.aload_n 0, 1) := by decide +kernel
theorem dX8_put_54 : decode cX8_put 54 = .ok (.getfield 9, 3) := by decide +kernel
theorem dX8_put_57 : decode cX8_put 57 = .ok (.iload_n 2, 1) := by decide +kernel
theorem dX8_put_58 : decode cX8_put 58 = .ok (.dup2, 1) := by decide +kernel
theorem dX8_put_59 : decode cX8_put 59 = .ok (.laload, 1) := by decide +kernel
theorem dX8_put_60 : decode cX8_put 60 = .ok (.iload_n 1, 1) := by decide +kernel
theorem dX8_put_61 : decode cX8_put 61 = .ok (.invokestatic 25, 3) := by decide +kernel
theorem dX8_put_64 : decode cX8_put 64 = .ok (.lor, 1) := by decide +kernel
theorem dX8_put_65 : decode cX8_put 65 = .ok (.lastore, 1) := by decide +kernel
theorem dX8_put_66 : decode cX8_put 66 = .ok (.iload_n 3, 1) := by decide +kernel
theorem dX8_put_67 : decode cX8_put 67 = .ok (.iconst 2, 1) := by decide +kernel
theorem dX8_put_68 : decode cX8_put 68 = .ok (.if_icmp .ne 16, 3) := by decide +kernel
theorem dX8_put_71 : decode cX8_put 71 = .ok (.aload_n 0, 1) := by decide +kernel
theorem dX8_put_72 : decode cX8_put 72 = .ok (.getfield 15, 3) := by decide +kernel
theorem dX8_put_75 : decode cX8_put 75 = .ok (.iload_n 2, 1) := by decide +kernel
theorem dX8_put_76 : decode cX8_put 76 = .ok (.dup2, 1) := by decide +kernel
theorem dX8_put_77 : decode cX8_put 77 = .ok (.laload, 1) := by decide +kernel
theorem dX8_put_78 : decode cX8_put 78 = .ok (.iload_n 1, 1) := by decide +kernel
theorem dX8_put_79 : decode cX8_put 79 = .ok (.invokestatic 25, 3) := by decide +kernel
theorem dX8_put_82 : decode cX8_put 82 = .ok (.lor, 1) := by decide +kernel
theorem dX8_put_83 : decode cX8_put 83 = .ok (.lastore, 1) := by decide +kernel
theorem dX8_put_84 : decode cX8_put 84 = .ok (.iload_n 3, 1) := by decide +kernel
theorem dX8_put_85 : decode cX8_put 85 = .ok (.iconst 3, 1) := by decide +kernel
theorem dX8_put_86 : decode cX8_put 86 = .ok (.if_icmp .ne 16, 3) := by decide +kernel
theorem dX8_put_89 : decode cX8_put 89 = .ok (.aload_n 0, 1) := by decide +kernel
theorem dX8_put_90 : decode cX8_put 90 = .ok (.getfield 18, 3) := by decide +kernel
theorem dX8_put_93 : decode cX8_put 93 = .ok (.iload_n 2, 1) := by decide +kernel
theorem dX8_put_94 : decode cX8_put 94 = .ok (.dup2, 1) := by decide +kernel
theorem dX8_put_95 : decode cX8_put 95 = .ok (.laload, 1) := by decide +kernel
theorem dX8_put_96 : decode cX8_put 96 = .ok (.iload_n 1, 1) := by decide +kernel
theorem dX8_put_97 : decode cX8_put 97 = .ok (.invokestatic 25, 3) := by decide +kernel
theorem dX8_put_100 : decode cX8_put 100 = .ok (.lor, 1) := by decide +kernel
theorem dX8_put_101 : decode cX8_put 101 = .ok (.lastore, 1) := by decide +kernel
theorem dX8_put_102 : decode cX8_put 102 = .ok (.return_, 1) := by decide +kernel
theorem dX8_outcomeOf_0 : decode cX8_outcomeOf 0 = .ok (.aload_n 0, 1) := by decide +kernel
theorem dX8_outcomeOf_1 : decode cX8_outcomeOf 1 = .ok (.getfield 9, 3) := by decide +kernel
theorem dX8_outcomeOf_4 : decode cX8_outcomeOf 4 = .ok (.iload_n 1, 1) := by decide +kernel
theorem dX8_outcomeOf_5 : decode cX8_outcomeOf 5 = .ok (.laload, 1) := by decide +kernel
theorem dX8_outcomeOf_6 : decode cX8_outcomeOf 6 = .ok (.iload_n 2, 1) := by decide +kernel
theorem dX8_outcomeOf_7 : decode cX8_outcomeOf 7 = .ok (.invokestatic 21, 3) := by decide +kernel
theorem dX8_outcomeOf_10 : decode cX8_outcomeOf 10 = .ok (.ifCond .eq 16, 3) := by decide +kernel
theorem dX8_outcomeOf_13 : decode cX8_outcomeOf 13 = .ok (.aload_n 0, 1) := by decide +kernel
theorem dX8_outcomeOf_14 : decode cX8_outcomeOf 14 = .ok (.getfield 9, 3) := by decide +kernel
theorem dX8_outcomeOf_17 : decode cX8_outcomeOf 17 = .ok (.iload_n 1, 1) := by decide +kernel
theorem dX8_outcomeOf_18 : decode cX8_outcomeOf 18 = .ok (.laload, 1) := by decide +kernel
theorem dX8_outcomeOf_19 : decode cX8_outcomeOf 19 = .ok (.iload_n 3, 1) := by decide +kernel
theorem dX8_outcomeOf_20 : decode cX8_outcomeOf 20 = .ok (.invokestatic 21, 3) := by decide +kernel
theorem dX8_outcomeOf_23 : decode cX8_outcomeOf 23 = .ok (.ifCond .ne 5, 3) := by decide +kernel
theorem dX8_outcomeOf_26 : decode cX8_outcomeOf 26 = .ok (.iconst 3, 1) := by decide +kernel
theorem dX8_outcomeOf_27 : decode cX8_outcomeOf 27 = .ok (.ireturn, 1) := by decide +kernel
theorem dX8_outcomeOf_28 : decode cX8_outcomeOf 28 = .ok (.aload_n 0, 1) := by decide +kernel
theorem dX8_outcomeOf_29 : decode cX8_outcomeOf 29 = .ok (.getfield 15, 3) := by decide +kernel
theorem dX8_outcomeOf_32 : decode cX8_outcomeOf 32 = .ok (.iload_n 1, 1) := by decide +kernel
theorem dX8_outcomeOf_33 : decode cX8_outcomeOf 33 = .ok (.laload, 1) := by decide +kernel
theorem dX8_outcomeOf_34 : decode cX8_outcomeOf 34 = .ok (.iload_n 2, 1) := by decide +kernel
theorem dX8_outcomeOf_35 : decode cX8_outcomeOf 35 = .ok (.invokestatic 21, 3) := by decide +kernel
theorem dX8_outcomeOf_38 : decode cX8_outcomeOf 38 = .ok (.ifCond .eq 7, 3) := by decide +kernel
theorem dX8_outcomeOf_41 : decode cX8_outcomeOf 41 = .ok (.iconst 1, 1) := by decide +kernel
theorem dX8_outcomeOf_42 : decode cX8_outcomeOf 42 = .ok (.goto 4, 3) := by decide +kernel
theorem dX8_outcomeOf_45 : decode cX8_outcomeOf 45 = .ok (.iconst 0, 1) := by decide +kernel
theorem dX8_outcomeOf_46 : decode cX8_outcomeOf 46 = .ok (.aload_n 0, 1) := by decide +kernel
theorem dX8_outcomeOf_47 : decode cX8_outcomeOf 47 = .ok (.getfield 15, 3) := by decide +kernel
theorem dX8_outcomeOf_50 : decode cX8_outcomeOf 50 = .ok (.iload_n 1, 1) := by decide +kernel
theorem dX8_outcomeOf_51 : decode cX8_outcomeOf 51 = .ok (.laload, 1) := by decide +kernel
theorem dX8_outcomeOf_52 : decode cX8_outcomeOf 52 = .ok (.iload_n 3, 1) := by decide +kernel
theorem dX8_outcomeOf_53 : decode cX8_outcomeOf 53 = .ok (.invokestatic 21, 3) := by decide +kernel
theorem dX8_outcomeOf_56 : decode cX8_outcomeOf 56 = .ok (.ifCond .eq 7, 3) := by decide +kernel
theorem dX8_outcomeOf_59 : decode cX8_outcomeOf 59 = .ok (.iconst 1, 1) := by decide +kernel
theorem dX8_outcomeOf_60 : decode cX8_outcomeOf 60 = .ok (.goto 4, 3) := by decide +kernel
theorem dX8_outcomeOf_63 : decode cX8_outcomeOf 63 = .ok (.iconst 0, 1) := by decide +kernel
theorem dX8_outcomeOf_64 : decode cX8_outcomeOf 64 = .ok (.iadd, 1) := by decide +kernel
theorem dX8_outcomeOf_65 : decode cX8_outcomeOf 65 = .ok (.ireturn, 1) := by decide +kernel
theorem dX8_thereIn_0 : decode cX8_thereIn 0 = .ok (.iconst 0, 1) := by decide +kernel
theorem dX8_thereIn_1 : decode cX8_thereIn 1 = .ok (.istore_n 2, 1) := by decide +kernel
theorem dX8_thereIn_2 : decode cX8_thereIn 2 = .ok (.iconst 0, 1) := by decide +kernel
theorem dX8_thereIn_3 : decode cX8_thereIn 3 = .ok (.istore_n 3, 1) := by decide +kernel
theorem dX8_thereIn_4 : decode cX8_thereIn 4 = .ok (.iload_n 3, 1) := by decide +kernel
theorem dX8_thereIn_5 : decode cX8_thereIn 5 = .ok (.bipush 16, 2) := by decide +kernel
theorem dX8_thereIn_7 : decode cX8_thereIn 7 = .ok (.if_icmp .ge 25, 3) := by decide +kernel
theorem dX8_thereIn_10 : decode cX8_thereIn 10 = .ok (.aload_n 0, 1) := by decide +kernel
theorem dX8_thereIn_11 : decode cX8_thereIn 11 = .ok (.getfield 15, 3) := by decide +kernel
theorem dX8_thereIn_14 : decode cX8_thereIn 14 = .ok (.iload_n 3, 1) := by decide +kernel
theorem dX8_thereIn_15 : decode cX8_thereIn 15 = .ok (.laload, 1) := by decide +kernel
theorem dX8_thereIn_16 : decode cX8_thereIn 16 = .ok (.iload_n 1, 1) := by decide +kernel
theorem dX8_thereIn_17 : decode cX8_thereIn 17 = .ok (.invokestatic 21, 3) := by decide +kernel
theorem dX8_thereIn_20 : decode cX8_thereIn 20 = .ok (.ifCond .eq 6, 3) := by decide +kernel
theorem dX8_thereIn_23 : decode cX8_thereIn 23 = .ok (.iinc 2 1, 3) := by decide +kernel
theorem dX8_thereIn_26 : decode cX8_thereIn 26 = .ok (.iinc 3 1, 3) := by decide +kernel
theorem dX8_thereIn_29 : decode cX8_thereIn 29 = .ok (.goto (-25), 3) := by decide +kernel
theorem dX8_thereIn_32 : decode cX8_thereIn 32 = .ok (.iload_n 2, 1) := by decide +kernel
theorem dX8_thereIn_33 : decode cX8_thereIn 33 = .ok (.ireturn, 1) := by decide +kernel
theorem dX8_copyFrom_0 : decode cX8_copyFrom 0 = .ok (.iconst 0, 1) := by decide +kernel
theorem dX8_copyFrom_1 : decode cX8_copyFrom 1 = .ok (.istore_n 2, 1) := by decide +kernel
theorem dX8_copyFrom_2 : decode cX8_copyFrom 2 = .ok (.iload_n 2, 1) := by decide +kernel
theorem dX8_copyFrom_3 : decode cX8_copyFrom 3 = .ok (.bipush 16, 2) := by decide +kernel
theorem dX8_copyFrom_5 : decode cX8_copyFrom 5 = .ok (.if_icmp .ge 45, 3) := by decide +kernel
theorem dX8_copyFrom_8 : decode cX8_copyFrom 8 = .ok (.aload_n 0, 1) := by decide +kernel
theorem dX8_copyFrom_9 : decode cX8_copyFrom 9 = .ok (.getfield 9, 3) := by decide +kernel
theorem dX8_copyFrom_12 : decode cX8_copyFrom 12 = .ok (.iload_n 2, 1) := by decide +kernel
theorem dX8_copyFrom_13 : decode cX8_copyFrom 13 = .ok (.aload_n 1, 1) := by decide +kernel
theorem dX8_copyFrom_14 : decode cX8_copyFrom 14 = .ok (.getfield 9, 3) := by decide +kernel
theorem dX8_copyFrom_17 : decode cX8_copyFrom 17 = .ok (.iload_n 2, 1) := by decide +kernel
theorem dX8_copyFrom_18 : decode cX8_copyFrom 18 = .ok (.laload, 1) := by decide +kernel
theorem dX8_copyFrom_19 : decode cX8_copyFrom 19 = .ok (.lastore, 1) := by decide +kernel
theorem dX8_copyFrom_20 : decode cX8_copyFrom 20 = .ok (.aload_n 0, 1) := by decide +kernel
theorem dX8_copyFrom_21 : decode cX8_copyFrom 21 = .ok (.getfield 15, 3) := by decide +kernel
theorem dX8_copyFrom_24 : decode cX8_copyFrom 24 = .ok (.iload_n 2, 1) := by decide +kernel
theorem dX8_copyFrom_25 : decode cX8_copyFrom 25 = .ok (.aload_n 1, 1) := by decide +kernel
theorem dX8_copyFrom_26 : decode cX8_copyFrom 26 = .ok (.getfield 15, 3) := by decide +kernel
theorem dX8_copyFrom_29 : decode cX8_copyFrom 29 = .ok (.iload_n 2, 1) := by decide +kernel
theorem dX8_copyFrom_30 : decode cX8_copyFrom 30 = .ok (.laload, 1) := by decide +kernel
theorem dX8_copyFrom_31 : decode cX8_copyFrom 31 = .ok (.lastore, 1) := by decide +kernel
theorem dX8_copyFrom_32 : decode cX8_copyFrom 32 = .ok (.aload_n 0, 1) := by decide +kernel
theorem dX8_copyFrom_33 : decode cX8_copyFrom 33 = .ok (.getfield 18, 3) := by decide +kernel
theorem dX8_copyFrom_36 : decode cX8_copyFrom 36 = .ok (.iload_n 2, 1) := by decide +kernel
theorem dX8_copyFrom_37 : decode cX8_copyFrom 37 = .ok (.aload_n 1, 1) := by decide +kernel
theorem dX8_copyFrom_38 : decode cX8_copyFrom 38 = .ok (.getfield 18, 3) := by decide +kernel
theorem dX8_copyFrom_41 : decode cX8_copyFrom 41 = .ok (.iload_n 2, 1) := by decide +kernel
theorem dX8_copyFrom_42 : decode cX8_copyFrom 42 = .ok (.laload, 1) := by decide +kernel
theorem dX8_copyFrom_43 : decode cX8_copyFrom 43 = .ok (.lastore, 1) := by decide +kernel
theorem dX8_copyFrom_44 : decode cX8_copyFrom 44 = .ok (.iinc 2 1, 3) := by decide +kernel
theorem dX8_copyFrom_47 : decode cX8_copyFrom 47 = .ok (.goto (-45), 3) := by decide +kernel
theorem dX8_copyFrom_50 : decode cX8_copyFrom 50 = .ok (.return_, 1) := by decide +kernel
theorem dX8_deal_0 : decode cX8_deal 0 = .ok (.lload 4, 2) := by decide +kernel
theorem dX8_deal_2 : decode cX8_deal 2 = .ok (.lstore 6, 2) := by decide +kernel
theorem dX8_deal_4 : decode cX8_deal 4 = .ok (.iload_n 3, 1) := by decide +kernel
theorem dX8_deal_5 : decode cX8_deal 5 = .ok (.aload_n 2, 1) := by decide +kernel
theorem dX8_deal_6 : decode cX8_deal 6 = .ok (.arraylength, 1) := by decide +kernel
theorem dX8_deal_7 : decode cX8_deal 7 = .ok (.invokestatic 31, 3) := by decide +kernel
theorem dX8_deal_10 : decode cX8_deal 10 = .ok (.iconst 1, 1) := by decide +kernel
theorem dX8_deal_11 : decode cX8_deal 11 = .ok (.isub, 1) := by decide +kernel
theorem dX8_deal_12 : decode cX8_deal 12 = .ok (.istore 8, 2) := by decide +kernel
theorem dX8_deal_14 : decode cX8_deal 14 = .ok (.iload 8, 2) := by decide +kernel
theorem dX8_deal_16 : decode cX8_deal 16 = .ok (.iconst 1, 1) := by decide +kernel
theorem dX8_deal_17 : decode cX8_deal 17 = .ok (.if_icmp .lt 92, 3) := by decide +kernel
theorem dX8_deal_20 : decode cX8_deal 20 = .ok (.lload 6, 2) := by decide +kernel
theorem dX8_deal_22 : decode cX8_deal 22 = .ok (.ldc2_w 37, 3) := by decide +kernel
theorem dX8_deal_25 : decode cX8_deal 25 = .ok (.lmul, 1) := by decide +kernel
theorem dX8_deal_26 : decode cX8_deal 26 = .ok (.ldc2_w 39, 3) := by decide +kernel
theorem dX8_deal_29 : decode cX8_deal 29 = .ok (.ladd, 1) := by decide +kernel
theorem dX8_deal_30 : decode cX8_deal 30 = .ok (.ldc2_w 41, 3) := by decide +kernel
theorem dX8_deal_33 : decode cX8_deal 33 = .ok (.land, 1) := by decide +kernel
theorem dX8_deal_34 : decode cX8_deal 34 = .ok (.lstore 6, 2) := by decide +kernel
theorem dX8_deal_36 : decode cX8_deal 36 = .ok (.lload 6, 2) := by decide +kernel
theorem dX8_deal_38 : decode cX8_deal 38 = .ok (.bipush 16, 2) := by decide +kernel
theorem dX8_deal_40 : decode cX8_deal 40 = .ok (.lshr, 1) := by decide +kernel
theorem dX8_deal_41 : decode cX8_deal 41 = .ok (.l2i, 1) := by decide +kernel
theorem dX8_deal_42 : decode cX8_deal 42 = .ok (.istore 9, 2) := by decide +kernel
theorem dX8_deal_44 : decode cX8_deal 44 = .ok (.iload 9, 2) := by decide +kernel
theorem dX8_deal_46 : decode cX8_deal 46 = .ok (.iload 9, 2) := by decide +kernel
theorem dX8_deal_48 : decode cX8_deal 48 = .ok (.iload 8, 2) := by decide +kernel
theorem dX8_deal_50 : decode cX8_deal 50 = .ok (.iconst 1, 1) := by decide +kernel
theorem dX8_deal_51 : decode cX8_deal 51 = .ok (.iadd, 1) := by decide +kernel
theorem dX8_deal_52 : decode cX8_deal 52 = .ok (.invokestatic 43, 3) := by decide +kernel
theorem dX8_deal_55 : decode cX8_deal 55 = .ok (.iload 8, 2) := by decide +kernel
theorem dX8_deal_57 : decode cX8_deal 57 = .ok (.iconst 1, 1) := by decide +kernel
theorem dX8_deal_58 : decode cX8_deal 58 = .ok (.iadd, 1) := by decide +kernel
theorem dX8_deal_59 : decode cX8_deal 59 = .ok (.imul, 1) := by decide +kernel
theorem dX8_deal_60 : decode cX8_deal 60 = .ok (.isub, 1) := by decide +kernel
theorem dX8_deal_61 : decode cX8_deal 61 = .ok (.istore 10, 2) := by decide +kernel
theorem dX8_deal_63 : decode cX8_deal 63 = .ok (.aload_n 0, 1) := by decide +kernel
theorem dX8_deal_64 : decode cX8_deal 64 = .ok (.aload_n 2, 1) := by decide +kernel
theorem dX8_deal_65 : decode cX8_deal 65 = .ok (.iload 8, 2) := by decide +kernel
theorem dX8_deal_67 : decode cX8_deal 67 = .ok (.iaload, 1) := by decide +kernel
theorem dX8_deal_68 : decode cX8_deal 68 = .ok (.iload_n 1, 1) := by decide +kernel
theorem dX8_deal_69 : decode cX8_deal 69 = .ok (.invokevirtual 46, 3) := by decide +kernel
theorem dX8_deal_72 : decode cX8_deal 72 = .ok (.istore 11, 2) := by decide +kernel
theorem dX8_deal_74 : decode cX8_deal 74 = .ok (.aload_n 0, 1) := by decide +kernel
theorem dX8_deal_75 : decode cX8_deal 75 = .ok (.aload_n 2, 1) := by decide +kernel
theorem dX8_deal_76 : decode cX8_deal 76 = .ok (.iload 8, 2) := by decide +kernel
theorem dX8_deal_78 : decode cX8_deal 78 = .ok (.iaload, 1) := by decide +kernel
theorem dX8_deal_79 : decode cX8_deal 79 = .ok (.iload_n 1, 1) := by decide +kernel
theorem dX8_deal_80 : decode cX8_deal 80 = .ok (.aload_n 0, 1) := by decide +kernel
theorem dX8_deal_81 : decode cX8_deal 81 = .ok (.aload_n 2, 1) := by decide +kernel
theorem dX8_deal_82 : decode cX8_deal 82 = .ok (.iload 10, 2) := by decide +kernel
theorem dX8_deal_84 : decode cX8_deal 84 = .ok (.iaload, 1) := by decide +kernel
theorem dX8_deal_85 : decode cX8_deal 85 = .ok (.iload_n 1, 1) := by decide +kernel
theorem dX8_deal_86 : decode cX8_deal 86 = .ok (.invokevirtual 46, 3) := by decide +kernel
theorem dX8_deal_89 : decode cX8_deal 89 = .ok (.invokevirtual 49, 3) := by decide +kernel
theorem dX8_deal_92 : decode cX8_deal 92 = .ok (.aload_n 0, 1) := by decide +kernel
theorem dX8_deal_93 : decode cX8_deal 93 = .ok (.aload_n 2, 1) := by decide +kernel
theorem dX8_deal_94 : decode cX8_deal 94 = .ok (.iload 10, 2) := by decide +kernel
theorem dX8_deal_96 : decode cX8_deal 96 = .ok (.iaload, 1) := by decide +kernel
theorem dX8_deal_97 : decode cX8_deal 97 = .ok (.iload_n 1, 1) := by decide +kernel
theorem dX8_deal_98 : decode cX8_deal 98 = .ok (.iload 11, 2) := by decide +kernel
theorem dX8_deal_100 : decode cX8_deal 100 = .ok (.invokevirtual 49, 3) := by decide +kernel
theorem dX8_deal_103 : decode cX8_deal 103 = .ok (.iinc 8 (-1), 3) := by decide +kernel
theorem dX8_deal_106 : decode cX8_deal 106 = .ok (.goto (-92), 3) := by decide +kernel
theorem dX8_deal_109 : decode cX8_deal 109 = .ok (.lload 6, 2) := by decide +kernel
theorem dX8_deal_111 : decode cX8_deal 111 = .ok (.lreturn, 1) := by decide +kernel
theorem dX9_init_0 : decode cX9_init 0 = .ok (.aload_n 0, 1) := by decide +kernel
theorem dX9_init_1 : decode cX9_init 1 = .ok (.invokespecial 3, 3) := by decide +kernel
theorem dX9_init_4 : decode cX9_init 4 = .ok (.aload_n 0, 1) := by decide +kernel
theorem dX9_init_5 : decode cX9_init 5 = .ok (.iconst 0, 1) := by decide +kernel
theorem dX9_init_6 : decode cX9_init 6 = .ok (.putfield 9, 3) := by decide +kernel
theorem dX9_init_9 : decode cX9_init 9 = .ok (.aload_n 0, 1) := by decide +kernel
theorem dX9_init_10 : decode cX9_init 10 = .ok (.bipush 120, 2) := by decide +kernel
theorem dX9_init_12 : decode cX9_init 12 = .ok (.newarray .int, 2) := by decide +kernel
theorem dX9_init_14 : decode cX9_init 14 = .ok (.putfield 15, 3) := by decide +kernel
theorem dX9_init_17 : decode cX9_init 17 = .ok (.aload_n 0, 1) := by decide +kernel
theorem dX9_init_18 : decode cX9_init 18 = .ok (.bipush 120, 2) := by decide +kernel
theorem dX9_init_20 : decode cX9_init 20 = .ok (.newarray .int, 2) := by decide +kernel
theorem dX9_init_22 : decode cX9_init 22 = .ok (.putfield 19, 3) := by decide +kernel
theorem dX9_init_25 : decode cX9_init 25 = .ok (.aload_n 0, 1) := by decide +kernel
theorem dX9_init_26 : decode cX9_init 26 = .ok (.bipush 60, 2) := by decide +kernel
theorem dX9_init_28 : decode cX9_init 28 = .ok (.newarray .int, 2) := by decide +kernel
theorem dX9_init_30 : decode cX9_init 30 = .ok (.putfield 22, 3) := by decide +kernel
theorem dX9_init_33 : decode cX9_init 33 = .ok (.aload_n 0, 1) := by decide +kernel
theorem dX9_init_34 : decode cX9_init 34 = .ok (.bipush 30, 2) := by decide +kernel
theorem dX9_init_36 : decode cX9_init 36 = .ok (.newarray .int, 2) := by decide +kernel
theorem dX9_init_38 : decode cX9_init 38 = .ok (.putfield 25, 3) := by decide +kernel
theorem dX9_init_41 : decode cX9_init 41 = .ok (.aload_n 0, 1) := by decide +kernel
theorem dX9_init_42 : decode cX9_init 42 = .ok (.bipush 30, 2) := by decide +kernel
theorem dX9_init_44 : decode cX9_init 44 = .ok (.newarray .int, 2) := by decide +kernel
theorem dX9_init_46 : decode cX9_init 46 = .ok (.putfield 28, 3) := by decide +kernel
theorem dX9_init_49 : decode cX9_init 49 = .ok (.aload_n 0, 1) := by decide +kernel
theorem dX9_init_50 : decode cX9_init 50 = .ok (.iconst 0, 1) := by decide +kernel
theorem dX9_init_51 : decode cX9_init 51 = .ok (.putfield 31, 3) := by decide +kernel
theorem dX9_init_54 : decode cX9_init 54 = .ok (.aload_n 0, 1) := by decide +kernel
theorem dX9_init_55 : decode cX9_init 55 = .ok (.bipush 20, 2) := by decide +kernel
theorem dX9_init_57 : decode cX9_init 57 = .ok (.newarray .int, 2) := by decide +kernel
theorem dX9_init_59 : decode cX9_init 59 = .ok (.putfield 34, 3) := by decide +kernel
theorem dX9_init_62 : decode cX9_init 62 = .ok (.aload_n 0, 1) := by decide +kernel
theorem dX9_init_63 : decode cX9_init 63 = .ok (.bipush 20, 2) := by decide +kernel
theorem dX9_init_65 : decode cX9_init 65 = .ok (.newarray .int, 2) := by decide +kernel
theorem dX9_init_67 : decode cX9_init 67 = .ok (.putfield 37, 3) := by decide +kernel
theorem dX9_init_70 : decode cX9_init 70 = .ok (.aload_n 0, 1) := by decide +kernel
theorem dX9_init_71 : decode cX9_init 71 = .ok (.aload_n 1, 1) := by decide +kernel
theorem dX9_init_72 : decode cX9_init 72 = .ok (.putfield 40, 3) := by decide +kernel
theorem dX9_init_75 : decode cX9_init 75 = .ok (.aload_n 0, 1) := by decide +kernel
theorem dX9_init_76 : decode cX9_init 76 = .ok (.aload_n 2, 1) := by decide +kernel
theorem dX9_init_77 : decode cX9_init 77 = .ok (.putfield 44, 3) := by decide +kernel
theorem dX9_init_80 : decode cX9_init 80 = .ok (.return_, 1) := by decide +kernel
theorem dX9_gather_0 : decode cX9_gather 0 = .ok (.aload_n 0, 1) := by decide +kernel
theorem dX9_gather_1 : decode cX9_gather 1 = .ok (.iconst 0, 1) := by decide +kernel
theorem dX9_gather_2 : decode cX9_gather 2 = .ok (.putfield 9, 3) := by decide +kernel
theorem dX9_gather_5 : decode cX9_gather 5 = .ok (.aload_n 0, 1) := by decide +kernel
theorem dX9_gather_6 : decode cX9_gather 6 = .ok (.getfield 44, 3) := by decide +kernel
theorem dX9_gather_9 : decode cX9_gather 9 = .ok (.invokevirtual 48, 3) := by decide +kernel
theorem dX9_gather_12 : decode cX9_gather 12 = .ok (.lstore_n 1, 1) := by decide +kernel
theorem dX9_gather_13 : decode cX9_gather 13 = .ok (.iconst 0, 1) := by decide +kernel
theorem dX9_gather_14 : decode cX9_gather 14 = .ok (.istore_n 3, 1) := by decide +kernel
theorem dX9_gather_15 : decode cX9_gather 15 = .ok (.iload_n 3, 1) := by decide +kernel
theorem dX9_gather_16 : decode cX9_gather 16 = .ok (.aload_n 0, 1) := by decide +kernel
theorem dX9_gather_17 : decode cX9_gather 17 = .ok (.getfield 40, 3) := by decide +kernel
theorem dX9_gather_20 : decode cX9_gather 20 = .ok (.getfield 54, 3) := by decide +kernel
theorem dX9_gather_23 : decode cX9_gather 23 = .ok (.if_icmp .ge 95, 3) := by decide +kernel
theorem dX9_gather_26 : decode cX9_gather 26 = .ok (.aload_n 0, 1) := by decide +kernel
theorem dX9_gather_27 : decode cX9_gather 27 = .ok (.aload_n 0, 1) := by decide +kernel
theorem dX9_gather_28 : decode cX9_gather 28 = .ok (.getfield 44, 3) := by decide +kernel
theorem dX9_gather_31 : decode cX9_gather 31 = .ok (.getfield 59, 3) := by decide +kernel
theorem dX9_gather_34 : decode cX9_gather 34 = .ok (.iload_n 3, 1) := by decide +kernel
theorem dX9_gather_35 : decode cX9_gather 35 = .ok (.laload, 1) := by decide +kernel
theorem dX9_gather_36 : decode cX9_gather 36 = .ok (.lload_n 1, 1) := by decide +kernel
theorem dX9_gather_37 : decode cX9_gather 37 = .ok (.land, 1) := by decide +kernel
theorem dX9_gather_38 : decode cX9_gather 38 = .ok (.invokevirtual 63, 3) := by decide +kernel
theorem dX9_gather_41 : decode cX9_gather 41 = .ok (.istore 4, 2) := by decide +kernel
theorem dX9_gather_43 : decode cX9_gather 43 = .ok (.iconst 1, 1) := by decide +kernel
theorem dX9_gather_44 : decode cX9_gather 44 = .ok (.istore 5, 2) := by decide +kernel
theorem dX9_gather_46 : decode cX9_gather 46 = .ok (.iload 5, 2) := by decide +kernel
theorem dX9_gather_48 : decode cX9_gather 48 = .ok (.iload 4, 2) := by decide +kernel
theorem dX9_gather_50 : decode cX9_gather 50 = .ok (.if_icmp .ge 62, 3) := by decide +kernel
theorem dX9_gather_53 : decode cX9_gather 53 = .ok (.aload_n 0, 1) := by decide +kernel
theorem dX9_gather_54 : decode cX9_gather 54 = .ok (.getfield 9, 3) := by decide +kernel
theorem dX9_gather_57 : decode cX9_gather 57 = .ok (.bipush 120, 2) := by decide +kernel
theorem dX9_gather_59 : decode cX9_gather 59 = .ok (.if_icmp .ge 53, 3) := by decide +kernel
theorem dX9_gather_62 : decode cX9_gather 62 = .ok (.aload_n 0, 1) := by decide +kernel
theorem dX9_gather_63 : decode cX9_gather 63 = .ok (.getfield 15, 3) := by decide +kernel
theorem dX9_gather_66 : decode cX9_gather 66 = .ok (.aload_n 0, 1) := by decide +kernel
theorem dX9_gather_67 : decode cX9_gather 67 = .ok (.getfield 9, 3) := by decide +kernel
theorem dX9_gather_70 : decode cX9_gather 70 = .ok (.aload_n 0, 1) := by decide +kernel
theorem dX9_gather_71 : decode cX9_gather 71 = .ok (.getfield 22, 3) := by decide +kernel
theorem dX9_gather_74 : decode cX9_gather 74 = .ok (.iload 5, 2) := by decide +kernel
theorem dX9_gather_76 : decode cX9_gather 76 = .ok (.iconst 1, 1) := by decide +kernel
theorem dX9_gather_77 : decode cX9_gather 77 = .ok (.isub, 1) := by decide +kernel
theorem dX9_gather_78 : decode cX9_gather 78 = .ok (.iaload, 1) := by decide +kernel
theorem dX9_gather_79 : decode cX9_gather 79 = .ok (.iastore, 1) := by decide +kernel
theorem dX9_gather_80 : decode cX9_gather 80 = .ok (.aload_n 0, 1) := by decide +kernel
theorem dX9_gather_81 : decode cX9_gather 81 = .ok (.getfield 19, 3) := by decide +kernel
theorem dX9_gather_84 : decode cX9_gather 84 = .ok (.aload_n 0, 1) := by decide +kernel
theorem dX9_gather_85 : decode cX9_gather 85 = .ok (.getfield 9, 3) := by decide +kernel
theorem dX9_gather_88 : decode cX9_gather 88 = .ok (.aload_n 0, 1) := by decide +kernel
theorem dX9_gather_89 : decode cX9_gather 89 = .ok (.getfield 22, 3) := by decide +kernel
theorem dX9_gather_92 : decode cX9_gather 92 = .ok (.iload 5, 2) := by decide +kernel
theorem dX9_gather_94 : decode cX9_gather 94 = .ok (.iaload, 1) := by decide +kernel
theorem dX9_gather_95 : decode cX9_gather 95 = .ok (.iastore, 1) := by decide +kernel
theorem dX9_gather_96 : decode cX9_gather 96 = .ok (.aload_n 0, 1) := by decide +kernel
theorem dX9_gather_97 : decode cX9_gather 97 = .ok (.dup, 1) := by decide +kernel
theorem dX9_gather_98 : decode cX9_gather 98 = .ok (.getfield 9, 3) := by decide +kernel
theorem dX9_gather_101 : decode cX9_gather 101 = .ok (.iconst 1, 1) := by decide +kernel
theorem dX9_gather_102 : decode cX9_gather 102 = .ok (.iadd, 1) := by decide +kernel
theorem dX9_gather_103 : decode cX9_gather 103 = .ok (.putfield 9, 3) := by decide +kernel
theorem dX9_gather_106 : decode cX9_gather 106 = .ok (.iinc 5 1, 3) := by decide +kernel
theorem dX9_gather_109 : decode cX9_gather 109 = .ok (.goto (-63), 3) := by decide +kernel
theorem dX9_gather_112 : decode cX9_gather 112 = .ok (.iinc 3 1, 3) := by decide +kernel
theorem dX9_gather_115 : decode cX9_gather 115 = .ok (.goto (-100), 3) := by decide +kernel
theorem dX9_gather_118 : decode cX9_gather 118 = .ok (.return_, 1) := by decide +kernel
theorem dX9_order_0 : decode cX9_order 0 = .ok (.iconst 0, 1) := by decide +kernel
theorem dX9_order_1 : decode cX9_order 1 = .ok (.istore_n 3, 1) := by decide +kernel
theorem dX9_order_2 : decode cX9_order 2 = .ok (.iconst 0, 1) := by decide +kernel
theorem dX9_order_3 : decode cX9_order 3 = .ok (.istore 4, 2) := by decide +kernel
theorem dX9_order_5 : decode cX9_order 5 = .ok (.iload 4, 2) := by decide +kernel
theorem dX9_order_7 : decode cX9_order 7 = .ok (.aload_n 0, 1) := by decide +kernel
theorem dX9_order_8 : decode cX9_order 8 = .ok (.getfield 44, 3) := by decide +kernel
theorem dX9_order_11 : decode cX9_order 11 = .ok (.getfield 67, 3) := by decide +kernel
theorem dX9_order_14 : decode cX9_order 14 = .ok (.if_icmp .ge 90, 3) := by decide +kernel
theorem dX9_order_17 : decode cX9_order 17 = .ok (.lload_n 1, 1) := by decide +kernel
theorem dX9_order_18 : decode cX9_order 18 = .ok (.iload 4, 2) := by decide +kernel
theorem dX9_order_20 : decode cX9_order 20 = .ok (.invokestatic 70, 3) := by decide +kernel
theorem dX9_order_23 : decode cX9_order 23 = .ok (.ifCond .eq 75, 3) := by decide +kernel
theorem dX9_order_26 : decode cX9_order 26 = .ok (.iload_n 3, 1) := by decide +kernel
theorem dX9_order_27 : decode cX9_order 27 = .ok (.istore 5, 2) := by decide +kernel
theorem dX9_order_29 : decode cX9_order 29 = .ok (.iload 5, 2) := by decide +kernel
theorem dX9_order_31 : decode cX9_order 31 = .ok (.ifCond .le 55, 3) := by decide +kernel
theorem dX9_order_34 : decode cX9_order 34 = .ok (.aload_n 0, 1) := by decide +kernel
theorem dX9_order_35 : decode cX9_order 35 = .ok (.getfield 44, 3) := by decide +kernel
theorem dX9_order_38 : decode cX9_order 38 = .ok (.getfield 74, 3) := by decide +kernel
theorem dX9_order_41 : decode cX9_order 41 = .ok (.aload_n 0, 1) := by decide +kernel
theorem dX9_order_42 : decode cX9_order 42 = .ok (.getfield 22, 3) := by decide +kernel
theorem dX9_order_45 : decode cX9_order 45 = .ok (.iload 5, 2) := by decide +kernel
theorem dX9_order_47 : decode cX9_order 47 = .ok (.iconst 1, 1) := by decide +kernel
theorem dX9_order_48 : decode cX9_order 48 = .ok (.isub, 1) := by decide +kernel
theorem dX9_order_49 : decode cX9_order 49 = .ok (.iaload, 1) := by decide +kernel
theorem dX9_order_50 : decode cX9_order 50 = .ok (.iaload, 1) := by decide +kernel
theorem dX9_order_51 : decode cX9_order 51 = .ok (.aload_n 0, 1) := by decide +kernel
theorem dX9_order_52 : decode cX9_order 52 = .ok (.getfield 44, 3) := by decide +kernel
theorem dX9_order_55 : decode cX9_order 55 = .ok (.getfield 74, 3) := by decide +kernel
theorem dX9_order_58 : decode cX9_order 58 = .ok (.iload 4, 2) := by decide +kernel
theorem dX9_order_60 : decode cX9_order 60 = .ok (.iaload, 1) := by decide +kernel
theorem dX9_order_61 : decode cX9_order 61 = .ok (.if_icmp .le 25, 3) := by decide +kernel
theorem dX9_order_64 : decode cX9_order 64 = .ok (.aload_n 0, 1) := by decide +kernel
theorem dX9_order_65 : decode cX9_order 65 = .ok (.getfield 22, 3) := by decide +kernel
theorem dX9_order_68 : decode cX9_order 68 = .ok (.iload 5, 2) := by decide +kernel
theorem dX9_order_70 : decode cX9_order 70 = .ok (.aload_n 0, 1) := by decide +kernel
theorem dX9_order_71 : decode cX9_order 71 = .ok (.getfield 22, 3) := by decide +kernel
theorem dX9_order_74 : decode cX9_order 74 = .ok (.iload 5, 2) := by decide +kernel
theorem dX9_order_76 : decode cX9_order 76 = .ok (.iconst 1, 1) := by decide +kernel
theorem dX9_order_77 : decode cX9_order 77 = .ok (.isub, 1) := by decide +kernel
theorem dX9_order_78 : decode cX9_order 78 = .ok (.iaload, 1) := by decide +kernel
theorem dX9_order_79 : decode cX9_order 79 = .ok (.iastore, 1) := by decide +kernel
theorem dX9_order_80 : decode cX9_order 80 = .ok (.iinc 5 (-1), 3) := by decide +kernel
theorem dX9_order_83 : decode cX9_order 83 = .ok (.goto (-54), 3) := by decide +kernel
theorem dX9_order_86 : decode cX9_order 86 = .ok (.aload_n 0, 1) := by decide +kernel
theorem dX9_order_87 : decode cX9_order 87 = .ok (.getfield 22, 3) := by decide +kernel
theorem dX9_order_90 : decode cX9_order 90 = .ok (.iload 5, 2) := by decide +kernel
theorem dX9_order_92 : decode cX9_order 92 = .ok (.iload 4, 2) := by decide +kernel
theorem dX9_order_94 : decode cX9_order 94 = .ok (.iastore, 1) := by decide +kernel
theorem dX9_order_95 : decode cX9_order 95 = .ok (.iinc 3 1, 3) := by decide +kernel
theorem dX9_order_98 : decode cX9_order 98 = .ok (.iinc 4 1, 3) := by decide +kernel
theorem dX9_order_101 : decode cX9_order 101 = .ok (.goto (-96), 3) := by decide +kernel
theorem dX9_order_104 : decode cX9_order 104 = .ok (.iload_n 3, 1) := by decide +kernel
theorem dX9_order_105 : decode cX9_order 105 = .ok (.ireturn, 1) := by decide +kernel
theorem dX9_hoursOf_0 : decode cX9_hoursOf 0 = .ok (.aload_n 0, 1) := by decide +kernel
theorem dX9_hoursOf_1 : decode cX9_hoursOf 1 = .ok (.getfield 44, 3) := by decide +kernel
theorem dX9_hoursOf_4 : decode cX9_hoursOf 4 = .ok (.getfield 74, 3) := by decide +kernel
theorem dX9_hoursOf_7 : decode cX9_hoursOf 7 = .ok (.aload_n 0, 1) := by decide +kernel
theorem dX9_hoursOf_8 : decode cX9_hoursOf 8 = .ok (.getfield 19, 3) := by decide +kernel
theorem dX9_hoursOf_11 : decode cX9_hoursOf 11 = .ok (.iload_n 1, 1) := by decide +kernel
theorem dX9_hoursOf_12 : decode cX9_hoursOf 12 = .ok (.iaload, 1) := by decide +kernel
theorem dX9_hoursOf_13 : decode cX9_hoursOf 13 = .ok (.iaload, 1) := by decide +kernel
theorem dX9_hoursOf_14 : decode cX9_hoursOf 14 = .ok (.aload_n 0, 1) := by decide +kernel
theorem dX9_hoursOf_15 : decode cX9_hoursOf 15 = .ok (.getfield 44, 3) := by decide +kernel
theorem dX9_hoursOf_18 : decode cX9_hoursOf 18 = .ok (.getfield 74, 3) := by decide +kernel
theorem dX9_hoursOf_21 : decode cX9_hoursOf 21 = .ok (.aload_n 0, 1) := by decide +kernel
theorem dX9_hoursOf_22 : decode cX9_hoursOf 22 = .ok (.getfield 15, 3) := by decide +kernel
theorem dX9_hoursOf_25 : decode cX9_hoursOf 25 = .ok (.iload_n 1, 1) := by decide +kernel
theorem dX9_hoursOf_26 : decode cX9_hoursOf 26 = .ok (.iaload, 1) := by decide +kernel
theorem dX9_hoursOf_27 : decode cX9_hoursOf 27 = .ok (.iaload, 1) := by decide +kernel
theorem dX9_hoursOf_28 : decode cX9_hoursOf 28 = .ok (.isub, 1) := by decide +kernel
theorem dX9_hoursOf_29 : decode cX9_hoursOf 29 = .ok (.ireturn, 1) := by decide +kernel
theorem dX9_farOf_0 : decode cX9_farOf 0 = .ok (.iload_n 1, 1) := by decide +kernel
theorem dX9_farOf_1 : decode cX9_farOf 1 = .ok (.ifCond .ne 5, 3) := by decide +kernel
theorem dX9_farOf_4 : decode cX9_farOf 4 = .ok (.iconst 0, 1) := by decide +kernel
theorem dX9_farOf_5 : decode cX9_farOf 5 = .ok (.ireturn, 1) := by decide +kernel
theorem dX9_farOf_6 : decode cX9_farOf 6 = .ok (.iload_n 1, 1) := by decide +kernel
theorem dX9_farOf_7 : decode cX9_farOf 7 = .ok (.bipush 10, 2) := by decide +kernel
theorem dX9_farOf_9 : decode cX9_farOf 9 = .ok (.if_icmp .ge 7, 3) := by decide +kernel
theorem dX9_farOf_12 : decode cX9_farOf 12 = .ok (.iconst 1, 1) := by decide +kernel
theorem dX9_farOf_13 : decode cX9_farOf 13 = .ok (.goto 14, 3) := by decide +kernel
theorem dX9_farOf_16 : decode cX9_farOf 16 = .ok (.iload_n 1, 1) := by decide +kernel
theorem dX9_farOf_17 : decode cX9_farOf 17 = .ok (.bipush 50, 2) := by decide +kernel
theorem dX9_farOf_19 : decode cX9_farOf 19 = .ok (.if_icmp .ge 7, 3) := by decide +kernel
theorem dX9_farOf_22 : decode cX9_farOf 22 = .ok (.iconst 2, 1) := by decide +kernel
theorem dX9_farOf_23 : decode cX9_farOf 23 = .ok (.goto 4, 3) := by decide +kernel
theorem dX9_farOf_26 : decode cX9_farOf 26 = .ok (.iconst 3, 1) := by decide +kernel
theorem dX9_farOf_27 : decode cX9_farOf 27 = .ok (.ireturn, 1) := by decide +kernel
theorem dX9_soonOf_0 : decode cX9_soonOf 0 = .ok (.iload_n 1, 1) := by decide +kernel
theorem dX9_soonOf_1 : decode cX9_soonOf 1 = .ok (.bipush 24, 2) := by decide +kernel
theorem dX9_soonOf_3 : decode cX9_soonOf 3 = .ok (.if_icmp .ge 5, 3) := by decide +kernel
theorem dX9_soonOf_6 : decode cX9_soonOf 6 = .ok (.iconst 0, 1) := by decide +kernel
theorem dX9_soonOf_7 : decode cX9_soonOf 7 = .ok (.ireturn, 1) := by decide +kernel
theorem dX9_soonOf_8 : decode cX9_soonOf 8 = .ok (.iload_n 1, 1) := by decide +kernel
theorem dX9_soonOf_9 : decode cX9_soonOf 9 = .ok (.sipush 168, 3) := by decide +kernel
theorem dX9_soonOf_12 : decode cX9_soonOf 12 = .ok (.if_icmp .ge 7, 3) := by decide +kernel
theorem dX9_soonOf_15 : decode cX9_soonOf 15 = .ok (.iconst 1, 1) := by decide +kernel
theorem dX9_soonOf_16 : decode cX9_soonOf 16 = .ok (.goto 15, 3) := by decide +kernel
theorem dX9_soonOf_19 : decode cX9_soonOf 19 = .ok (.iload_n 1, 1) := by decide +kernel
theorem dX9_soonOf_20 : decode cX9_soonOf 20 = .ok (.sipush 720, 3) := by decide +kernel
theorem dX9_soonOf_23 : decode cX9_soonOf 23 = .ok (.if_icmp .ge 7, 3) := by decide +kernel
theorem dX9_soonOf_26 : decode cX9_soonOf 26 = .ok (.iconst 2, 1) := by decide +kernel
theorem dX9_soonOf_27 : decode cX9_soonOf 27 = .ok (.goto 4, 3) := by decide +kernel
theorem dX9_soonOf_30 : decode cX9_soonOf 30 = .ok (.iconst 3, 1) := by decide +kernel
theorem dX9_soonOf_31 : decode cX9_soonOf 31 = .ok (.ireturn, 1) := by decide +kernel
theorem dX9_movesOf_0 : decode cX9_movesOf 0 = .ok (.iconst 0, 1) := by decide +kernel
theorem dX9_movesOf_1 : decode cX9_movesOf 1 = .ok (.istore_n 3, 1) := by decide +kernel
theorem dX9_movesOf_2 : decode cX9_movesOf 2 = .ok (.iconst 0, 1) := by decide +kernel
