theorem dX9_movesOf_3 : decode cX9_movesOf 3 = .ok (.istore 4, 2) := by decide +kernel
theorem dX9_movesOf_5 : decode cX9_movesOf 5 = .ok (.iload 4, 2) := by decide +kernel
theorem dX9_movesOf_7 : decode cX9_movesOf 7 = .ok (.aload_n 0, 1) := by decide +kernel
theorem dX9_movesOf_8 : decode cX9_movesOf 8 = .ok (.getfield 9, 3) := by decide +kernel
theorem dX9_movesOf_11 : decode cX9_movesOf 11 = .ok (.if_icmp .ge 75, 3) := by decide +kernel
theorem dX9_movesOf_14 : decode cX9_movesOf 14 = .ok (.aload_n 0, 1) := by decide +kernel
theorem dX9_movesOf_15 : decode cX9_movesOf 15 = .ok (.getfield 40, 3) := by decide +kernel
theorem dX9_movesOf_18 : decode cX9_movesOf 18 = .ok (.aload_n 0, 1) := by decide +kernel
theorem dX9_movesOf_19 : decode cX9_movesOf 19 = .ok (.getfield 44, 3) := by decide +kernel
theorem dX9_movesOf_22 : decode cX9_movesOf 22 = .ok (.getfield 77, 3) := by decide +kernel
theorem dX9_movesOf_25 : decode cX9_movesOf 25 = .ok (.aload_n 0, 1) := by decide +kernel
theorem dX9_movesOf_26 : decode cX9_movesOf 26 = .ok (.getfield 15, 3) := by decide +kernel
theorem dX9_movesOf_29 : decode cX9_movesOf 29 = .ok (.iload 4, 2) := by decide +kernel
theorem dX9_movesOf_31 : decode cX9_movesOf 31 = .ok (.iaload, 1) := by decide +kernel
theorem dX9_movesOf_32 : decode cX9_movesOf 32 = .ok (.iaload, 1) := by decide +kernel
theorem dX9_movesOf_33 : decode cX9_movesOf 33 = .ok (.aload_n 0, 1) := by decide +kernel
theorem dX9_movesOf_34 : decode cX9_movesOf 34 = .ok (.getfield 44, 3) := by decide +kernel
theorem dX9_movesOf_37 : decode cX9_movesOf 37 = .ok (.getfield 77, 3) := by decide +kernel
theorem dX9_movesOf_40 : decode cX9_movesOf 40 = .ok (.aload_n 0, 1) := by decide +kernel
theorem dX9_movesOf_41 : decode cX9_movesOf 41 = .ok (.getfield 19, 3) := by decide +kernel
theorem dX9_movesOf_44 : decode cX9_movesOf 44 = .ok (.iload 4, 2) := by decide +kernel
theorem dX9_movesOf_46 : decode cX9_movesOf 46 = .ok (.iaload, 1) := by decide +kernel
theorem dX9_movesOf_47 : decode cX9_movesOf 47 = .ok (.iaload, 1) := by decide +kernel
theorem dX9_movesOf_48 : decode cX9_movesOf 48 = .ok (.invokevirtual 80, 3) := by decide +kernel
theorem dX9_movesOf_51 : decode cX9_movesOf 51 = .ok (.istore 5, 2) := by decide +kernel
theorem dX9_movesOf_53 : decode cX9_movesOf 53 = .ok (.aload_n 0, 1) := by decide +kernel
theorem dX9_movesOf_54 : decode cX9_movesOf 54 = .ok (.iload 5, 2) := by decide +kernel
theorem dX9_movesOf_56 : decode cX9_movesOf 56 = .ok (.invokevirtual 84, 3) := by decide +kernel
theorem dX9_movesOf_59 : decode cX9_movesOf 59 = .ok (.iload_n 1, 1) := by decide +kernel
theorem dX9_movesOf_60 : decode cX9_movesOf 60 = .ok (.if_icmp .ne 20, 3) := by decide +kernel
theorem dX9_movesOf_63 : decode cX9_movesOf 63 = .ok (.aload_n 0, 1) := by decide +kernel
theorem dX9_movesOf_64 : decode cX9_movesOf 64 = .ok (.aload_n 0, 1) := by decide +kernel
theorem dX9_movesOf_65 : decode cX9_movesOf 65 = .ok (.iload 4, 2) := by decide +kernel
theorem dX9_movesOf_67 : decode cX9_movesOf 67 = .ok (.invokevirtual 88, 3) := by decide +kernel
theorem dX9_movesOf_70 : decode cX9_movesOf 70 = .ok (.invokevirtual 91, 3) := by decide +kernel
theorem dX9_movesOf_73 : decode cX9_movesOf 73 = .ok (.iload_n 2, 1) := by decide +kernel
theorem dX9_movesOf_74 : decode cX9_movesOf 74 = .ok (.if_icmp .ne 6, 3) := by decide +kernel
theorem dX9_movesOf_77 : decode cX9_movesOf 77 = .ok (.iinc 3 1, 3) := by decide +kernel
theorem dX9_movesOf_80 : decode cX9_movesOf 80 = .ok (.iinc 4 1, 3) := by decide +kernel
theorem dX9_movesOf_83 : decode cX9_movesOf 83 = .ok (.goto (-78), 3) := by decide +kernel
theorem dX9_movesOf_86 : decode cX9_movesOf 86 = .ok (.iload_n 3, 1) := by decide +kernel
theorem dX9_movesOf_87 : decode cX9_movesOf 87 = .ok (.ireturn, 1) := by decide +kernel
theorem dX9_changesOf_0 : decode cX9_changesOf 0 = .ok (.iconst 0, 1) := by decide +kernel
theorem dX9_changesOf_1 : decode cX9_changesOf 1 = .ok (.istore 5, 2) := by decide +kernel
theorem dX9_changesOf_3 : decode cX9_changesOf 3 = .ok (.iconst 0, 1) := by decide +kernel
theorem dX9_changesOf_4 : decode cX9_changesOf 4 = .ok (.istore 6, 2) := by decide +kernel
theorem dX9_changesOf_6 : decode cX9_changesOf 6 = .ok (.iload 6, 2) := by decide +kernel
theorem dX9_changesOf_8 : decode cX9_changesOf 8 = .ok (.aload_n 0, 1) := by decide +kernel
theorem dX9_changesOf_9 : decode cX9_changesOf 9 = .ok (.getfield 9, 3) := by decide +kernel
theorem dX9_changesOf_12 : decode cX9_changesOf 12 = .ok (.if_icmp .ge 45, 3) := by decide +kernel
theorem dX9_changesOf_15 : decode cX9_changesOf 15 = .ok (.aload_n 1, 1) := by decide +kernel
theorem dX9_changesOf_16 : decode cX9_changesOf 16 = .ok (.aload_n 0, 1) := by decide +kernel
theorem dX9_changesOf_17 : decode cX9_changesOf 17 = .ok (.getfield 15, 3) := by decide +kernel
theorem dX9_changesOf_20 : decode cX9_changesOf 20 = .ok (.iload 6, 2) := by decide +kernel
theorem dX9_changesOf_22 : decode cX9_changesOf 22 = .ok (.iaload, 1) := by decide +kernel
theorem dX9_changesOf_23 : decode cX9_changesOf 23 = .ok (.iload_n 2, 1) := by decide +kernel
theorem dX9_changesOf_24 : decode cX9_changesOf 24 = .ok (.invokevirtual 94, 3) := by decide +kernel
theorem dX9_changesOf_27 : decode cX9_changesOf 27 = .ok (.iload_n 3, 1) := by decide +kernel
theorem dX9_changesOf_28 : decode cX9_changesOf 28 = .ok (.if_icmp .ne 23, 3) := by decide +kernel
theorem dX9_changesOf_31 : decode cX9_changesOf 31 = .ok (.aload_n 1, 1) := by decide +kernel
theorem dX9_changesOf_32 : decode cX9_changesOf 32 = .ok (.aload_n 0, 1) := by decide +kernel
theorem dX9_changesOf_33 : decode cX9_changesOf 33 = .ok (.getfield 19, 3) := by decide +kernel
theorem dX9_changesOf_36 : decode cX9_changesOf 36 = .ok (.iload 6, 2) := by decide +kernel
theorem dX9_changesOf_38 : decode cX9_changesOf 38 = .ok (.iaload, 1) := by decide +kernel
theorem dX9_changesOf_39 : decode cX9_changesOf 39 = .ok (.iload_n 2, 1) := by decide +kernel
theorem dX9_changesOf_40 : decode cX9_changesOf 40 = .ok (.invokevirtual 94, 3) := by decide +kernel
theorem dX9_changesOf_43 : decode cX9_changesOf 43 = .ok (.iload 4, 2) := by decide +kernel
theorem dX9_changesOf_45 : decode cX9_changesOf 45 = .ok (.if_icmp .ne 6, 3) := by decide +kernel
theorem dX9_changesOf_48 : decode cX9_changesOf 48 = .ok (.iinc 5 1, 3) := by decide +kernel
theorem dX9_changesOf_51 : decode cX9_changesOf 51 = .ok (.iinc 6 1, 3) := by decide +kernel
theorem dX9_changesOf_54 : decode cX9_changesOf 54 = .ok (.goto (-48), 3) := by decide +kernel
theorem dX9_changesOf_57 : decode cX9_changesOf 57 = .ok (.iload 5, 2) := by decide +kernel
theorem dX9_changesOf_59 : decode cX9_changesOf 59 = .ok (.ireturn, 1) := by decide +kernel
theorem dX9_longest_0 : decode cX9_longest 0 = .ok (.iconst 0, 1) := by decide +kernel
theorem dX9_longest_1 : decode cX9_longest 1 = .ok (.istore_n 1, 1) := by decide +kernel
theorem dX9_longest_2 : decode cX9_longest 2 = .ok (.iconst 0, 1) := by decide +kernel
theorem dX9_longest_3 : decode cX9_longest 3 = .ok (.istore_n 2, 1) := by decide +kernel
theorem dX9_longest_4 : decode cX9_longest 4 = .ok (.iload_n 2, 1) := by decide +kernel
theorem dX9_longest_5 : decode cX9_longest 5 = .ok (.aload_n 0, 1) := by decide +kernel
theorem dX9_longest_6 : decode cX9_longest 6 = .ok (.getfield 9, 3) := by decide +kernel
theorem dX9_longest_9 : decode cX9_longest 9 = .ok (.if_icmp .ge 19, 3) := by decide +kernel
theorem dX9_longest_12 : decode cX9_longest 12 = .ok (.iload_n 1, 1) := by decide +kernel
theorem dX9_longest_13 : decode cX9_longest 13 = .ok (.aload_n 0, 1) := by decide +kernel
theorem dX9_longest_14 : decode cX9_longest 14 = .ok (.iload_n 2, 1) := by decide +kernel
theorem dX9_longest_15 : decode cX9_longest 15 = .ok (.invokevirtual 88, 3) := by decide +kernel
theorem dX9_longest_18 : decode cX9_longest 18 = .ok (.invokestatic 99, 3) := by decide +kernel
theorem dX9_longest_21 : decode cX9_longest 21 = .ok (.istore_n 1, 1) := by decide +kernel
theorem dX9_longest_22 : decode cX9_longest 22 = .ok (.iinc 2 1, 3) := by decide +kernel
theorem dX9_longest_25 : decode cX9_longest 25 = .ok (.goto (-21), 3) := by decide +kernel
theorem dX9_longest_28 : decode cX9_longest 28 = .ok (.iload_n 1, 1) := by decide +kernel
theorem dX9_longest_29 : decode cX9_longest 29 = .ok (.ireturn, 1) := by decide +kernel
theorem dX9_draw_0 : decode cX9_draw 0 = .ok (.aload_n 0, 1) := by decide +kernel
theorem dX9_draw_1 : decode cX9_draw 1 = .ok (.invokevirtual 104, 3) := by decide +kernel
theorem dX9_draw_4 : decode cX9_draw 4 = .ok (.iconst 0, 1) := by decide +kernel
theorem dX9_draw_5 : decode cX9_draw 5 = .ok (.istore_n 3, 1) := by decide +kernel
theorem dX9_draw_6 : decode cX9_draw 6 = .ok (.iconst 0, 1) := by decide +kernel
theorem dX9_draw_7 : decode cX9_draw 7 = .ok (.istore 4, 2) := by decide +kernel
theorem dX9_draw_9 : decode cX9_draw 9 = .ok (.iload 4, 2) := by decide +kernel
theorem dX9_draw_11 : decode cX9_draw 11 = .ok (.aload_n 0, 1) := by decide +kernel
theorem dX9_draw_12 : decode cX9_draw 12 = .ok (.getfield 40, 3) := by decide +kernel
theorem dX9_draw_15 : decode cX9_draw 15 = .ok (.getfield 107, 3) := by decide +kernel
theorem dX9_draw_18 : decode cX9_draw 18 = .ok (.if_icmp .ge 55, 3) := by decide +kernel
theorem dX9_draw_21 : decode cX9_draw 21 = .ok (.aload_n 0, 1) := by decide +kernel
theorem dX9_draw_22 : decode cX9_draw 22 = .ok (.getfield 25, 3) := by decide +kernel
theorem dX9_draw_25 : decode cX9_draw 25 = .ok (.iload 4, 2) := by decide +kernel
theorem dX9_draw_27 : decode cX9_draw 27 = .ok (.iconst 1, 1) := by decide +kernel
theorem dX9_draw_28 : decode cX9_draw 28 = .ok (.aload_n 0, 1) := by decide +kernel
theorem dX9_draw_29 : decode cX9_draw 29 = .ok (.aload_n 0, 1) := by decide +kernel
theorem dX9_draw_30 : decode cX9_draw 30 = .ok (.aload_n 0, 1) := by decide +kernel
theorem dX9_draw_31 : decode cX9_draw 31 = .ok (.getfield 40, 3) := by decide +kernel
theorem dX9_draw_34 : decode cX9_draw 34 = .ok (.aload_n 0, 1) := by decide +kernel
theorem dX9_draw_35 : decode cX9_draw 35 = .ok (.getfield 44, 3) := by decide +kernel
theorem dX9_draw_38 : decode cX9_draw 38 = .ok (.getfield 77, 3) := by decide +kernel
theorem dX9_draw_41 : decode cX9_draw 41 = .ok (.iload_n 1, 1) := by decide +kernel
theorem dX9_draw_42 : decode cX9_draw 42 = .ok (.iaload, 1) := by decide +kernel
theorem dX9_draw_43 : decode cX9_draw 43 = .ok (.iload 4, 2) := by decide +kernel
theorem dX9_draw_45 : decode cX9_draw 45 = .ok (.invokevirtual 80, 3) := by decide +kernel
theorem dX9_draw_48 : decode cX9_draw 48 = .ok (.invokevirtual 84, 3) := by decide +kernel
theorem dX9_draw_51 : decode cX9_draw 51 = .ok (.iload_n 2, 1) := by decide +kernel
theorem dX9_draw_52 : decode cX9_draw 52 = .ok (.invokevirtual 110, 3) := by decide +kernel
theorem dX9_draw_55 : decode cX9_draw 55 = .ok (.iadd, 1) := by decide +kernel
theorem dX9_draw_56 : decode cX9_draw 56 = .ok (.iastore, 1) := by decide +kernel
theorem dX9_draw_57 : decode cX9_draw 57 = .ok (.iload_n 3, 1) := by decide +kernel
theorem dX9_draw_58 : decode cX9_draw 58 = .ok (.aload_n 0, 1) := by decide +kernel
theorem dX9_draw_59 : decode cX9_draw 59 = .ok (.getfield 25, 3) := by decide +kernel
theorem dX9_draw_62 : decode cX9_draw 62 = .ok (.iload 4, 2) := by decide +kernel
theorem dX9_draw_64 : decode cX9_draw 64 = .ok (.iaload, 1) := by decide +kernel
theorem dX9_draw_65 : decode cX9_draw 65 = .ok (.iadd, 1) := by decide +kernel
theorem dX9_draw_66 : decode cX9_draw 66 = .ok (.istore_n 3, 1) := by decide +kernel
theorem dX9_draw_67 : decode cX9_draw 67 = .ok (.iinc 4 1, 3) := by decide +kernel
theorem dX9_draw_70 : decode cX9_draw 70 = .ok (.goto (-61), 3) := by decide +kernel
theorem dX9_draw_73 : decode cX9_draw 73 = .ok (.sipush 10000, 3) := by decide +kernel
theorem dX9_draw_76 : decode cX9_draw 76 = .ok (.istore 4, 2) := by decide +kernel
theorem dX9_draw_78 : decode cX9_draw 78 = .ok (.iconst 0, 1) := by decide +kernel
theorem dX9_draw_79 : decode cX9_draw 79 = .ok (.istore 5, 2) := by decide +kernel
theorem dX9_draw_81 : decode cX9_draw 81 = .ok (.iload 5, 2) := by decide +kernel
theorem dX9_draw_83 : decode cX9_draw 83 = .ok (.aload_n 0, 1) := by decide +kernel
theorem dX9_draw_84 : decode cX9_draw 84 = .ok (.getfield 40, 3) := by decide +kernel
theorem dX9_draw_87 : decode cX9_draw 87 = .ok (.getfield 107, 3) := by decide +kernel
theorem dX9_draw_90 : decode cX9_draw 90 = .ok (.if_icmp .ge 66, 3) := by decide +kernel
theorem dX9_draw_93 : decode cX9_draw 93 = .ok (.sipush 10000, 3) := by decide +kernel
theorem dX9_draw_96 : decode cX9_draw 96 = .ok (.aload_n 0, 1) := by decide +kernel
theorem dX9_draw_97 : decode cX9_draw 97 = .ok (.getfield 25, 3) := by decide +kernel
theorem dX9_draw_100 : decode cX9_draw 100 = .ok (.iload 5, 2) := by decide +kernel
theorem dX9_draw_102 : decode cX9_draw 102 = .ok (.iaload, 1) := by decide +kernel
theorem dX9_draw_103 : decode cX9_draw 103 = .ok (.imul, 1) := by decide +kernel
theorem dX9_draw_104 : decode cX9_draw 104 = .ok (.istore 6, 2) := by decide +kernel
theorem dX9_draw_106 : decode cX9_draw 106 = .ok (.aload_n 0, 1) := by decide +kernel
theorem dX9_draw_107 : decode cX9_draw 107 = .ok (.getfield 25, 3) := by decide +kernel
theorem dX9_draw_110 : decode cX9_draw 110 = .ok (.iload 5, 2) := by decide +kernel
theorem dX9_draw_112 : decode cX9_draw 112 = .ok (.iload 6, 2) := by decide +kernel
theorem dX9_draw_114 : decode cX9_draw 114 = .ok (.iload_n 3, 1) := by decide +kernel
theorem dX9_draw_115 : decode cX9_draw 115 = .ok (.invokestatic 113, 3) := by decide +kernel
theorem dX9_draw_118 : decode cX9_draw 118 = .ok (.iastore, 1) := by decide +kernel
theorem dX9_draw_119 : decode cX9_draw 119 = .ok (.aload_n 0, 1) := by decide +kernel
theorem dX9_draw_120 : decode cX9_draw 120 = .ok (.getfield 28, 3) := by decide +kernel
theorem dX9_draw_123 : decode cX9_draw 123 = .ok (.iload 5, 2) := by decide +kernel
theorem dX9_draw_125 : decode cX9_draw 125 = .ok (.iload 6, 2) := by decide +kernel
theorem dX9_draw_127 : decode cX9_draw 127 = .ok (.aload_n 0, 1) := by decide +kernel
theorem dX9_draw_128 : decode cX9_draw 128 = .ok (.getfield 25, 3) := by decide +kernel
theorem dX9_draw_131 : decode cX9_draw 131 = .ok (.iload 5, 2) := by decide +kernel
theorem dX9_draw_133 : decode cX9_draw 133 = .ok (.iaload, 1) := by decide +kernel
theorem dX9_draw_134 : decode cX9_draw 134 = .ok (.iload_n 3, 1) := by decide +kernel
theorem dX9_draw_135 : decode cX9_draw 135 = .ok (.imul, 1) := by decide +kernel
theorem dX9_draw_136 : decode cX9_draw 136 = .ok (.isub, 1) := by decide +kernel
theorem dX9_draw_137 : decode cX9_draw 137 = .ok (.iastore, 1) := by decide +kernel
theorem dX9_draw_138 : decode cX9_draw 138 = .ok (.iload 4, 2) := by decide +kernel
theorem dX9_draw_140 : decode cX9_draw 140 = .ok (.aload_n 0, 1) := by decide +kernel
theorem dX9_draw_141 : decode cX9_draw 141 = .ok (.getfield 25, 3) := by decide +kernel
theorem dX9_draw_144 : decode cX9_draw 144 = .ok (.iload 5, 2) := by decide +kernel
theorem dX9_draw_146 : decode cX9_draw 146 = .ok (.iaload, 1) := by decide +kernel
theorem dX9_draw_147 : decode cX9_draw 147 = .ok (.isub, 1) := by decide +kernel
theorem dX9_draw_148 : decode cX9_draw 148 = .ok (.istore 4, 2) := by decide +kernel
theorem dX9_draw_150 : decode cX9_draw 150 = .ok (.iinc 5 1, 3) := by decide +kernel
theorem dX9_draw_153 : decode cX9_draw 153 = .ok (.goto (-72), 3) := by decide +kernel
theorem dX9_draw_156 : decode cX9_draw 156 = .ok (.iconst 0, 1) := by decide +kernel
theorem dX9_draw_157 : decode cX9_draw 157 = .ok (.istore 5, 2) := by decide +kernel
theorem dX9_draw_159 : decode cX9_draw 159 = .ok (.iload 5, 2) := by decide +kernel
theorem dX9_draw_161 : decode cX9_draw 161 = .ok (.bipush 30, 2) := by decide +kernel
theorem dX9_draw_163 : decode cX9_draw 163 = .ok (.if_icmp .ge 52, 3) := by decide +kernel
theorem dX9_draw_166 : decode cX9_draw 166 = .ok (.iload 5, 2) := by decide +kernel
theorem dX9_draw_168 : decode cX9_draw 168 = .ok (.iload 4, 2) := by decide +kernel
theorem dX9_draw_170 : decode cX9_draw 170 = .ok (.if_icmp .ge 45, 3) := by decide +kernel
theorem dX9_draw_173 : decode cX9_draw 173 = .ok (.aload_n 0, 1) := by decide +kernel
theorem dX9_draw_174 : decode cX9_draw 174 = .ok (.aload_n 0, 1) := by decide +kernel
theorem dX9_draw_175 : decode cX9_draw 175 = .ok (.getfield 28, 3) := by decide +kernel
theorem dX9_draw_178 : decode cX9_draw 178 = .ok (.iconst 0, 1) := by decide +kernel
theorem dX9_draw_179 : decode cX9_draw 179 = .ok (.invokevirtual 116, 3) := by decide +kernel
theorem dX9_draw_182 : decode cX9_draw 182 = .ok (.istore 6, 2) := by decide +kernel
theorem dX9_draw_184 : decode cX9_draw 184 = .ok (.iload 6, 2) := by decide +kernel
theorem dX9_draw_186 : decode cX9_draw 186 = .ok (.iconst (-1), 1) := by decide +kernel
theorem dX9_draw_187 : decode cX9_draw 187 = .ok (.if_icmp .eq 22, 3) := by decide +kernel
theorem dX9_draw_190 : decode cX9_draw 190 = .ok (.aload_n 0, 1) := by decide +kernel
theorem dX9_draw_191 : decode cX9_draw 191 = .ok (.getfield 25, 3) := by decide +kernel
theorem dX9_draw_194 : decode cX9_draw 194 = .ok (.iload 6, 2) := by decide +kernel
theorem dX9_draw_196 : decode cX9_draw 196 = .ok (.dup2, 1) := by decide +kernel
theorem dX9_draw_197 : decode cX9_draw 197 = .ok (.iaload, 1) := by decide +kernel
theorem dX9_draw_198 : decode cX9_draw 198 = .ok (.iconst 1, 1) := by decide +kernel
theorem dX9_draw_199 : decode cX9_draw 199 = .ok (.iadd, 1) := by decide +kernel
theorem dX9_draw_200 : decode cX9_draw 200 = .ok (.iastore, 1) := by decide +kernel
theorem dX9_draw_201 : decode cX9_draw 201 = .ok (.aload_n 0, 1) := by decide +kernel
theorem dX9_draw_202 : decode cX9_draw 202 = .ok (.getfield 28, 3) := by decide +kernel
theorem dX9_draw_205 : decode cX9_draw 205 = .ok (.iload 6, 2) := by decide +kernel
theorem dX9_draw_207 : decode cX9_draw 207 = .ok (.iconst (-1), 1) := by decide +kernel
theorem dX9_draw_208 : decode cX9_draw 208 = .ok (.iastore, 1) := by decide +kernel
theorem dX9_draw_209 : decode cX9_draw 209 = .ok (.iinc 5 1, 3) := by decide +kernel
theorem dX9_draw_212 : decode cX9_draw 212 = .ok (.goto (-53), 3) := by decide +kernel
theorem dX9_draw_215 : decode cX9_draw 215 = .ok (.return_, 1) := by decide +kernel
theorem dX9_greatest_0 : decode cX9_greatest 0 = .ok (.iconst (-1), 1) := by decide +kernel
theorem dX9_greatest_1 : decode cX9_greatest 1 = .ok (.istore_n 3, 1) := by decide +kernel
theorem dX9_greatest_2 : decode cX9_greatest 2 = .ok (.iconst (-1), 1) := by decide +kernel
theorem dX9_greatest_3 : decode cX9_greatest 3 = .ok (.istore 4, 2) := by decide +kernel
theorem dX9_greatest_5 : decode cX9_greatest 5 = .ok (.iconst 0, 1) := by decide +kernel
theorem dX9_greatest_6 : decode cX9_greatest 6 = .ok (.istore 5, 2) := by decide +kernel
theorem dX9_greatest_8 : decode cX9_greatest 8 = .ok (.iload 5, 2) := by decide +kernel
theorem dX9_greatest_10 : decode cX9_greatest 10 = .ok (.aload_n 0, 1) := by decide +kernel
theorem dX9_greatest_11 : decode cX9_greatest 11 = .ok (.getfield 40, 3) := by decide +kernel
theorem dX9_greatest_14 : decode cX9_greatest 14 = .ok (.getfield 107, 3) := by decide +kernel
theorem dX9_greatest_17 : decode cX9_greatest 17 = .ok (.if_icmp .ge 36, 3) := by decide +kernel
theorem dX9_greatest_20 : decode cX9_greatest 20 = .ok (.aload_n 1, 1) := by decide +kernel
theorem dX9_greatest_21 : decode cX9_greatest 21 = .ok (.iload 5, 2) := by decide +kernel
theorem dX9_greatest_23 : decode cX9_greatest 23 = .ok (.iaload, 1) := by decide +kernel
theorem dX9_greatest_24 : decode cX9_greatest 24 = .ok (.iload 4, 2) := by decide +kernel
theorem dX9_greatest_26 : decode cX9_greatest 26 = .ok (.if_icmp .le 21, 3) := by decide +kernel
theorem dX9_greatest_29 : decode cX9_greatest 29 = .ok (.iload_n 2, 1) := by decide +kernel
theorem dX9_greatest_30 : decode cX9_greatest 30 = .ok (.iload 5, 2) := by decide +kernel
theorem dX9_greatest_32 : decode cX9_greatest 32 = .ok (.ishr, 1) := by decide +kernel
theorem dX9_greatest_33 : decode cX9_greatest 33 = .ok (.iconst 1, 1) := by decide +kernel
theorem dX9_greatest_34 : decode cX9_greatest 34 = .ok (.iand, 1) := by decide +kernel
theorem dX9_greatest_35 : decode cX9_greatest 35 = .ok (.ifCond .ne 12, 3) := by decide +kernel
theorem dX9_greatest_38 : decode cX9_greatest 38 = .ok (.iload 5, 2) := by decide +kernel
theorem dX9_greatest_40 : decode cX9_greatest 40 = .ok (.istore_n 3, 1) := by decide +kernel
theorem dX9_greatest_41 : decode cX9_greatest 41 = .ok (.aload_n 1, 1) := by decide +kernel
theorem dX9_greatest_42 : decode cX9_greatest 42 = .ok (.iload 5, 2) := by decide +kernel
theorem dX9_greatest_44 : decode cX9_greatest 44 = .ok (.iaload, 1) := by decide +kernel
theorem dX9_greatest_45 : decode cX9_greatest 45 = .ok (.istore 4, 2) := by decide +kernel
theorem dX9_greatest_47 : decode cX9_greatest 47 = .ok (.iinc 5 1, 3) := by decide +kernel
theorem dX9_greatest_50 : decode cX9_greatest 50 = .ok (.goto (-42), 3) := by decide +kernel
theorem dX9_greatest_53 : decode cX9_greatest 53 = .ok (.iload_n 3, 1) := by decide +kernel
theorem dX9_greatest_54 : decode cX9_greatest 54 = .ok (.ireturn, 1) := by decide +kernel
theorem dX9_likeliest_0 : decode cX9_likeliest 0 = .ok (.iconst 0, 1) := by decide +kernel
theorem dX9_likeliest_1 : decode cX9_likeliest 1 = .ok (.istore_n 2, 1) := by decide +kernel
theorem dX9_likeliest_2 : decode cX9_likeliest 2 = .ok (.iconst 0, 1) := by decide +kernel
theorem dX9_likeliest_3 : decode cX9_likeliest 3 = .ok (.istore_n 3, 1) := by decide +kernel
theorem dX9_likeliest_4 : decode cX9_likeliest 4 = .ok (.iconst 0, 1) := by decide +kernel
theorem dX9_likeliest_5 : decode cX9_likeliest 5 = .ok (.istore 4, 2) := by decide +kernel
theorem dX9_likeliest_7 : decode cX9_likeliest 7 = .ok (.iload 4, 2) := by decide +kernel
theorem dX9_likeliest_9 : decode cX9_likeliest 9 = .ok (.bipush 30, 2) := by decide +kernel
theorem dX9_likeliest_11 : decode cX9_likeliest 11 = .ok (.if_icmp .ge 48, 3) := by decide +kernel
theorem dX9_likeliest_14 : decode cX9_likeliest 14 = .ok (.iload_n 3, 1) := by decide +kernel
theorem dX9_likeliest_15 : decode cX9_likeliest 15 = .ok (.iload_n 1, 1) := by decide +kernel
theorem dX9_likeliest_16 : decode cX9_likeliest 16 = .ok (.if_icmp .ge 43, 3) := by decide +kernel
theorem dX9_likeliest_19 : decode cX9_likeliest 19 = .ok (.aload_n 0, 1) := by decide +kernel
theorem dX9_likeliest_20 : decode cX9_likeliest 20 = .ok (.aload_n 0, 1) := by decide +kernel
theorem dX9_likeliest_21 : decode cX9_likeliest 21 = .ok (.getfield 25, 3) := by decide +kernel
theorem dX9_likeliest_24 : decode cX9_likeliest 24 = .ok (.iload_n 2, 1) := by decide +kernel
theorem dX9_likeliest_25 : decode cX9_likeliest 25 = .ok (.invokevirtual 116, 3) := by decide +kernel
theorem dX9_likeliest_28 : decode cX9_likeliest 28 = .ok (.istore 5, 2) := by decide +kernel
theorem dX9_likeliest_30 : decode cX9_likeliest 30 = .ok (.iload 5, 2) := by decide +kernel
theorem dX9_likeliest_32 : decode cX9_likeliest 32 = .ok (.iconst (-1), 1) := by decide +kernel
theorem dX9_likeliest_33 : decode cX9_likeliest 33 = .ok (.if_icmp .eq 20, 3) := by decide +kernel
theorem dX9_likeliest_36 : decode cX9_likeliest 36 = .ok (.iload_n 2, 1) := by decide +kernel
theorem dX9_likeliest_37 : decode cX9_likeliest 37 = .ok (.iconst 1, 1) := by decide +kernel
theorem dX9_likeliest_38 : decode cX9_likeliest 38 = .ok (.iload 5, 2) := by decide +kernel
theorem dX9_likeliest_40 : decode cX9_likeliest 40 = .ok (.ishl, 1) := by decide +kernel
theorem dX9_likeliest_41 : decode cX9_likeliest 41 = .ok (.ior, 1) := by decide +kernel
theorem dX9_likeliest_42 : decode cX9_likeliest 42 = .ok (.istore_n 2, 1) := by decide +kernel
theorem dX9_likeliest_43 : decode cX9_likeliest 43 = .ok (.iload_n 3, 1) := by decide +kernel
theorem dX9_likeliest_44 : decode cX9_likeliest 44 = .ok (.aload_n 0, 1) := by decide +kernel
theorem dX9_likeliest_45 : decode cX9_likeliest 45 = .ok (.getfield 25, 3) := by decide +kernel
theorem dX9_likeliest_48 : decode cX9_likeliest 48 = .ok (.iload 5, 2) := by decide +kernel
theorem dX9_likeliest_50 : decode cX9_likeliest 50 = .ok (.iaload, 1) := by decide +kernel
theorem dX9_likeliest_51 : decode cX9_likeliest 51 = .ok (.iadd, 1) := by decide +kernel
theorem dX9_likeliest_52 : decode cX9_likeliest 52 = .ok (.istore_n 3, 1) := by decide +kernel
theorem dX9_likeliest_53 : decode cX9_likeliest 53 = .ok (.iinc 4 1, 3) := by decide +kernel
theorem dX9_likeliest_56 : decode cX9_likeliest 56 = .ok (.goto (-49), 3) := by decide +kernel
theorem dX9_likeliest_59 : decode cX9_likeliest 59 = .ok (.iload_n 2, 1) := by decide +kernel
theorem dX9_likeliest_60 : decode cX9_likeliest 60 = .ok (.ireturn, 1) := by decide +kernel
theorem dX9_keepMap_0 : decode cX9_keepMap 0 = .ok (.aload_n 0, 1) := by decide +kernel
theorem dX9_keepMap_1 : decode cX9_keepMap 1 = .ok (.getfield 31, 3) := by decide +kernel
theorem dX9_keepMap_4 : decode cX9_keepMap 4 = .ok (.bipush 20, 2) := by decide +kernel
theorem dX9_keepMap_6 : decode cX9_keepMap 6 = .ok (.if_icmp .lt 5, 3) := by decide +kernel
theorem dX9_keepMap_9 : decode cX9_keepMap 9 = .ok (.iconst (-1), 1) := by decide +kernel
theorem dX9_keepMap_10 : decode cX9_keepMap 10 = .ok (.ireturn, 1) := by decide +kernel
theorem dX9_keepMap_11 : decode cX9_keepMap 11 = .ok (.aload_n 0, 1) := by decide +kernel
theorem dX9_keepMap_12 : decode cX9_keepMap 12 = .ok (.getfield 34, 3) := by decide +kernel
theorem dX9_keepMap_15 : decode cX9_keepMap 15 = .ok (.aload_n 0, 1) := by decide +kernel
theorem dX9_keepMap_16 : decode cX9_keepMap 16 = .ok (.getfield 31, 3) := by decide +kernel
theorem dX9_keepMap_19 : decode cX9_keepMap 19 = .ok (.iload_n 1, 1) := by decide +kernel
theorem dX9_keepMap_20 : decode cX9_keepMap 20 = .ok (.iastore, 1) := by decide +kernel
theorem dX9_keepMap_21 : decode cX9_keepMap 21 = .ok (.aload_n 0, 1) := by decide +kernel
theorem dX9_keepMap_22 : decode cX9_keepMap 22 = .ok (.getfield 37, 3) := by decide +kernel
theorem dX9_keepMap_25 : decode cX9_keepMap 25 = .ok (.aload_n 0, 1) := by decide +kernel
theorem dX9_keepMap_26 : decode cX9_keepMap 26 = .ok (.getfield 31, 3) := by decide +kernel
theorem dX9_keepMap_29 : decode cX9_keepMap 29 = .ok (.iconst 0, 1) := by decide +kernel
theorem dX9_keepMap_30 : decode cX9_keepMap 30 = .ok (.iastore, 1) := by decide +kernel
theorem dX9_keepMap_31 : decode cX9_keepMap 31 = .ok (.aload_n 0, 1) := by decide +kernel
theorem dX9_keepMap_32 : decode cX9_keepMap 32 = .ok (.dup, 1) := by decide +kernel
theorem dX9_keepMap_33 : decode cX9_keepMap 33 = .ok (.getfield 31, 3) := by decide +kernel
theorem dX9_keepMap_36 : decode cX9_keepMap 36 = .ok (.dup_x1, 1) := by decide +kernel
theorem dX9_keepMap_37 : decode cX9_keepMap 37 = .ok (.iconst 1, 1) := by decide +kernel
theorem dX9_keepMap_38 : decode cX9_keepMap 38 = .ok (.iadd, 1) := by decide +kernel
theorem dX9_keepMap_39 : decode cX9_keepMap 39 = .ok (.putfield 31, 3) := by decide +kernel
theorem dX9_keepMap_42 : decode cX9_keepMap 42 = .ok (.ireturn, 1) := by decide +kernel
theorem dX9_endMap_0 : decode cX9_endMap 0 = .ok (.aload_n 0, 1) := by decide +kernel
theorem dX9_endMap_1 : decode cX9_endMap 1 = .ok (.getfield 34, 3) := by decide +kernel
theorem dX9_endMap_4 : decode cX9_endMap 4 = .ok (.iload_n 1, 1) := by decide +kernel
theorem dX9_endMap_5 : decode cX9_endMap 5 = .ok (.iaload, 1) := by decide +kernel
theorem dX9_endMap_6 : decode cX9_endMap 6 = .ok (.iload_n 2, 1) := by decide +kernel
theorem dX9_endMap_7 : decode cX9_endMap 7 = .ok (.ishr, 1) := by decide +kernel
theorem dX9_endMap_8 : decode cX9_endMap 8 = .ok (.iconst 1, 1) := by decide +kernel
theorem dX9_endMap_9 : decode cX9_endMap 9 = .ok (.iand, 1) := by decide +kernel
theorem dX9_endMap_10 : decode cX9_endMap 10 = .ok (.ifCond .eq 7, 3) := by decide +kernel
theorem dX9_endMap_13 : decode cX9_endMap 13 = .ok (.iconst 1, 1) := by decide +kernel
theorem dX9_endMap_14 : decode cX9_endMap 14 = .ok (.goto 4, 3) := by decide +kernel
theorem dX9_endMap_17 : decode cX9_endMap 17 = .ok (.iconst 0, 1) := by decide +kernel
theorem dX9_endMap_18 : decode cX9_endMap 18 = .ok (.istore_n 3, 1) := by decide +kernel
theorem dX9_endMap_19 : decode cX9_endMap 19 = .ok (.aload_n 0, 1) := by decide +kernel
theorem dX9_endMap_20 : decode cX9_endMap 20 = .ok (.getfield 37, 3) := by decide +kernel
theorem dX9_endMap_23 : decode cX9_endMap 23 = .ok (.iload_n 1, 1) := by decide +kernel
theorem dX9_endMap_24 : decode cX9_endMap 24 = .ok (.iload_n 3, 1) := by decide +kernel
theorem dX9_endMap_25 : decode cX9_endMap 25 = .ok (.ifCond .eq 7, 3) := by decide +kernel
theorem dX9_endMap_28 : decode cX9_endMap 28 = .ok (.iconst 1, 1) := by decide +kernel
theorem dX9_endMap_29 : decode cX9_endMap 29 = .ok (.goto 4, 3) := by decide +kernel
theorem dX9_endMap_32 : decode cX9_endMap 32 = .ok (.iconst 2, 1) := by decide +kernel
theorem dX9_endMap_33 : decode cX9_endMap 33 = .ok (.iastore, 1) := by decide +kernel
theorem dX9_endMap_34 : decode cX9_endMap 34 = .ok (.iload_n 3, 1) := by decide +kernel
theorem dX9_endMap_35 : decode cX9_endMap 35 = .ok (.ireturn, 1) := by decide +kernel
theorem dX9_endedBy_0 : decode cX9_endedBy 0 = .ok (.iconst 0, 1) := by decide +kernel
theorem dX9_endedBy_1 : decode cX9_endedBy 1 = .ok (.istore_n 2, 1) := by decide +kernel
theorem dX9_endedBy_2 : decode cX9_endedBy 2 = .ok (.iconst 0, 1) := by decide +kernel
theorem dX9_endedBy_3 : decode cX9_endedBy 3 = .ok (.istore_n 3, 1) := by decide +kernel
theorem dX9_endedBy_4 : decode cX9_endedBy 4 = .ok (.iload_n 3, 1) := by decide +kernel
theorem dX9_endedBy_5 : decode cX9_endedBy 5 = .ok (.aload_n 0, 1) := by decide +kernel
theorem dX9_endedBy_6 : decode cX9_endedBy 6 = .ok (.getfield 31, 3) := by decide +kernel
theorem dX9_endedBy_9 : decode cX9_endedBy 9 = .ok (.if_icmp .ge 22, 3) := by decide +kernel
theorem dX9_endedBy_12 : decode cX9_endedBy 12 = .ok (.aload_n 0, 1) := by decide +kernel
theorem dX9_endedBy_13 : decode cX9_endedBy 13 = .ok (.getfield 37, 3) := by decide +kernel
theorem dX9_endedBy_16 : decode cX9_endedBy 16 = .ok (.iload_n 3, 1) := by decide +kernel
theorem dX9_endedBy_17 : decode cX9_endedBy 17 = .ok (.iaload, 1) := by decide +kernel
theorem dX9_endedBy_18 : decode cX9_endedBy 18 = .ok (.iload_n 1, 1) := by decide +kernel
theorem dX9_endedBy_19 : decode cX9_endedBy 19 = .ok (.if_icmp .ne 6, 3) := by decide +kernel
theorem dX9_endedBy_22 : decode cX9_endedBy 22 = .ok (.iinc 2 1, 3) := by decide +kernel
theorem dX9_endedBy_25 : decode cX9_endedBy 25 = .ok (.iinc 3 1, 3) := by decide +kernel
theorem dX9_endedBy_28 : decode cX9_endedBy 28 = .ok (.goto (-24), 3) := by decide +kernel
theorem dX9_endedBy_31 : decode cX9_endedBy 31 = .ok (.iload_n 2, 1) := by decide +kernel
theorem dX9_endedBy_32 : decode cX9_endedBy 32 = .ok (.ireturn, 1) := by decide +kernel
theorem dX9_middle_0 : decode cX9_middle 0 = .ok (.iconst 0, 1) := by decide +kernel
theorem dX9_middle_1 : decode cX9_middle 1 = .ok (.istore_n 3, 1) := by decide +kernel
theorem dX9_middle_2 : decode cX9_middle 2 = .ok (.iconst (-1), 1) := by decide +kernel
theorem dX9_middle_3 : decode cX9_middle 3 = .ok (.istore 4, 2) := by decide +kernel
theorem dX9_middle_5 : decode cX9_middle 5 = .ok (.iconst 0, 1) := by decide +kernel
theorem dX9_middle_6 : decode cX9_middle 6 = .ok (.istore 5, 2) := by decide +kernel
theorem dX9_middle_8 : decode cX9_middle 8 = .ok (.iload 5, 2) := by decide +kernel
theorem dX9_middle_10 : decode cX9_middle 10 = .ok (.aload_n 0, 1) := by decide +kernel
theorem dX9_middle_11 : decode cX9_middle 11 = .ok (.getfield 40, 3) := by decide +kernel
theorem dX9_middle_14 : decode cX9_middle 14 = .ok (.getfield 107, 3) := by decide +kernel
theorem dX9_middle_17 : decode cX9_middle 17 = .ok (.if_icmp .ge 86, 3) := by decide +kernel
theorem dX9_middle_20 : decode cX9_middle 20 = .ok (.iconst 0, 1) := by decide +kernel
theorem dX9_middle_21 : decode cX9_middle 21 = .ok (.istore 6, 2) := by decide +kernel
theorem dX9_middle_23 : decode cX9_middle 23 = .ok (.iconst 0, 1) := by decide +kernel
theorem dX9_middle_24 : decode cX9_middle 24 = .ok (.istore 7, 2) := by decide +kernel
theorem dX9_middle_26 : decode cX9_middle 26 = .ok (.iload 7, 2) := by decide +kernel
theorem dX9_middle_28 : decode cX9_middle 28 = .ok (.aload_n 0, 1) := by decide +kernel
theorem dX9_middle_29 : decode cX9_middle 29 = .ok (.getfield 44, 3) := by decide +kernel
theorem dX9_middle_32 : decode cX9_middle 32 = .ok (.getfield 67, 3) := by decide +kernel
theorem dX9_middle_35 : decode cX9_middle 35 = .ok (.if_icmp .ge 42, 3) := by decide +kernel
theorem dX9_middle_38 : decode cX9_middle 38 = .ok (.lload_n 1, 1) := by decide +kernel
theorem dX9_middle_39 : decode cX9_middle 39 = .ok (.iload 7, 2) := by decide +kernel
theorem dX9_middle_41 : decode cX9_middle 41 = .ok (.invokestatic 70, 3) := by decide +kernel
theorem dX9_middle_44 : decode cX9_middle 44 = .ok (.ifCond .eq 27, 3) := by decide +kernel
theorem dX9_middle_47 : decode cX9_middle 47 = .ok (.iload 6, 2) := by decide +kernel
theorem dX9_middle_49 : decode cX9_middle 49 = .ok (.aload_n 0, 1) := by decide +kernel
theorem dX9_middle_50 : decode cX9_middle 50 = .ok (.getfield 40, 3) := by decide +kernel
theorem dX9_middle_53 : decode cX9_middle 53 = .ok (.iload 5, 2) := by decide +kernel
theorem dX9_middle_55 : decode cX9_middle 55 = .ok (.aload_n 0, 1) := by decide +kernel
theorem dX9_middle_56 : decode cX9_middle 56 = .ok (.getfield 44, 3) := by decide +kernel
theorem dX9_middle_59 : decode cX9_middle 59 = .ok (.getfield 77, 3) := by decide +kernel
theorem dX9_middle_62 : decode cX9_middle 62 = .ok (.iload 7, 2) := by decide +kernel
theorem dX9_middle_64 : decode cX9_middle 64 = .ok (.iaload, 1) := by decide +kernel
theorem dX9_middle_65 : decode cX9_middle 65 = .ok (.invokevirtual 80, 3) := by decide +kernel
theorem dX9_middle_68 : decode cX9_middle 68 = .ok (.iadd, 1) := by decide +kernel
theorem dX9_middle_69 : decode cX9_middle 69 = .ok (.istore 6, 2) := by decide +kernel
theorem dX9_middle_71 : decode cX9_middle 71 = .ok (.iinc 7 1, 3) := by decide +kernel
theorem dX9_middle_74 : decode cX9_middle 74 = .ok (.goto (-48), 3) := by decide +kernel
theorem dX9_middle_77 : decode cX9_middle 77 = .ok (.iload 4, 2) := by decide +kernel
theorem dX9_middle_79 : decode cX9_middle 79 = .ok (.iconst (-1), 1) := by decide +kernel
theorem dX9_middle_80 : decode cX9_middle 80 = .ok (.if_icmp .eq 10, 3) := by decide +kernel
theorem dX9_middle_83 : decode cX9_middle 83 = .ok (.iload 6, 2) := by decide +kernel
theorem dX9_middle_85 : decode cX9_middle 85 = .ok (.iload 4, 2) := by decide +kernel
theorem dX9_middle_87 : decode cX9_middle 87 = .ok (.if_icmp .ge 10, 3) := by decide +kernel
theorem dX9_middle_90 : decode cX9_middle 90 = .ok (.iload 5, 2) := by decide +kernel
theorem dX9_middle_92 : decode cX9_middle 92 = .ok (.istore_n 3, 1) := by decide +kernel
theorem dX9_middle_93 : decode cX9_middle 93 = .ok (.iload 6, 2) := by decide +kernel
theorem dX9_middle_95 : decode cX9_middle 95 = .ok (.istore 4, 2) := by decide +kernel
theorem dX9_middle_97 : decode cX9_middle 97 = .ok (.iinc 5 1, 3) := by decide +kernel
theorem dX9_middle_100 : decode cX9_middle 100 = .ok (.goto (-92), 3) := by decide +kernel
theorem dX9_middle_103 : decode cX9_middle 103 = .ok (.iload_n 3, 1) := by decide +kernel
theorem dX9_middle_104 : decode cX9_middle 104 = .ok (.ireturn, 1) := by decide +kernel
theorem dX10_init_0 : decode cX10_init 0 = .ok (.aload_n 0, 1) := by decide +kernel
theorem dX10_init_1 : decode cX10_init 1 = .ok (.invokespecial 3, 3) := by decide +kernel
theorem dX10_init_4 : decode cX10_init 4 = .ok (.aload_n 0, 1) := by decide +kernel
theorem dX10_init_5 : decode cX10_init 5 = .ok (.iconst 4, 1) := by decide +kernel
theorem dX10_init_6 : decode cX10_init 6 = .ok (.newarray .int, 2) := by decide +kernel
theorem dX10_init_8 : decode cX10_init 8 = .ok (.putfield 9, 3) := by decide +kernel
theorem dX10_init_11 : decode cX10_init 11 = .ok (.aload_n 0, 1) := by decide +kernel
theorem dX10_init_12 : decode cX10_init 12 = .ok (.iconst 4, 1) := by decide +kernel
theorem dX10_init_13 : decode cX10_init 13 = .ok (.newarray .int, 2) := by decide +kernel
theorem dX10_init_15 : decode cX10_init 15 = .ok (.putfield 15, 3) := by decide +kernel
theorem dX10_init_18 : decode cX10_init 18 = .ok (.aload_n 0, 1) := by decide +kernel
theorem dX10_init_19 : decode cX10_init 19 = .ok (.sipush 160, 3) := by decide +kernel
theorem dX10_init_22 : decode cX10_init 22 = .ok (.newarray .long, 2) := by decide +kernel
theorem dX10_init_24 : decode cX10_init 24 = .ok (.putfield 18, 3) := by decide +kernel
theorem dX10_init_27 : decode cX10_init 27 = .ok (.iconst 0, 1) := by decide +kernel
theorem dX10_init_28 : decode cX10_init 28 = .ok (.istore_n 1, 1) := by decide +kernel
theorem dX10_init_29 : decode cX10_init 29 = .ok (.iload_n 1, 1) := by decide +kernel
theorem dX10_init_30 : decode cX10_init 30 = .ok (.iconst 4, 1) := by decide +kernel
theorem dX10_init_31 : decode cX10_init 31 = .ok (.if_icmp .ge 16, 3) := by decide +kernel
theorem dX10_init_34 : decode cX10_init 34 = .ok (.aload_n 0, 1) := by decide +kernel
theorem dX10_init_35 : decode cX10_init 35 = .ok (.getfield 9, 3) := by decide +kernel
theorem dX10_init_38 : decode cX10_init 38 = .ok (.iload_n 1, 1) := by decide +kernel
theorem dX10_init_39 : decode cX10_init 39 = .ok (.iconst (-1), 1) := by decide +kernel
theorem dX10_init_40 : decode cX10_init 40 = .ok (.iastore, 1) := by decide +kernel
theorem dX10_init_41 : decode cX10_init 41 = .ok (.iinc 1 1, 3) := by decide +kernel
theorem dX10_init_44 : decode cX10_init 44 = .ok (.goto (-15), 3) := by decide +kernel
theorem dX10_init_47 : decode cX10_init 47 = .ok (.return_, 1) := by decide +kernel
theorem dX10_lay_0 : decode cX10_lay 0 = .ok (.aload_n 0, 1) := by decide +kernel
theorem dX10_lay_1 : decode cX10_lay 1 = .ok (.getfield 15, 3) := by decide +kernel
theorem dX10_lay_4 : decode cX10_lay 4 = .ok (.iload_n 1, 1) := by decide +kernel
theorem dX10_lay_5 : decode cX10_lay 5 = .ok (.iload_n 2, 1) := by decide +kernel
theorem dX10_lay_6 : decode cX10_lay 6 = .ok (.iastore, 1) := by decide +kernel
theorem dX10_lay_7 : decode cX10_lay 7 = .ok (.aload_n 0, 1) := by decide +kernel
theorem dX10_lay_8 : decode cX10_lay 8 = .ok (.getfield 9, 3) := by decide +kernel
theorem dX10_lay_11 : decode cX10_lay 11 = .ok (.iload_n 1, 1) := by decide +kernel
theorem dX10_lay_12 : decode cX10_lay 12 = .ok (.iload_n 3, 1) := by decide +kernel
theorem dX10_lay_13 : decode cX10_lay 13 = .ok (.iastore, 1) := by decide +kernel
theorem dX10_lay_14 : decode cX10_lay 14 = .ok (.iconst 0, 1) := by decide +kernel
theorem dX10_lay_15 : decode cX10_lay 15 = .ok (.istore 4, 2) := by decide +kernel
theorem dX10_lay_17 : decode cX10_lay 17 = .ok (.iload 4, 2) := by decide +kernel
theorem dX10_lay_19 : decode cX10_lay 19 = .ok (.bipush 40, 2) := by decide +kernel
theorem dX10_lay_21 : decode cX10_lay 21 = .ok (.if_icmp .ge 22, 3) := by decide +kernel
theorem dX10_lay_24 : decode cX10_lay 24 = .ok (.aload_n 0, 1) := by decide +kernel
theorem dX10_lay_25 : decode cX10_lay 25 = .ok (.getfield 18, 3) := by decide +kernel
theorem dX10_lay_28 : decode cX10_lay 28 = .ok (.iload_n 1, 1) := by decide +kernel
theorem dX10_lay_29 : decode cX10_lay 29 = .ok (.bipush 40, 2) := by decide +kernel
theorem dX10_lay_31 : decode cX10_lay 31 = .ok (.imul, 1) := by decide +kernel
theorem dX10_lay_32 : decode cX10_lay 32 = .ok (.iload 4, 2) := by decide +kernel
theorem dX10_lay_34 : decode cX10_lay 34 = .ok (.iadd, 1) := by decide +kernel
theorem dX10_lay_35 : decode cX10_lay 35 = .ok (.lconst 0, 1) := by decide +kernel
theorem dX10_lay_36 : decode cX10_lay 36 = .ok (.lastore, 1) := by decide +kernel
theorem dX10_lay_37 : decode cX10_lay 37 = .ok (.iinc 4 1, 3) := by decide +kernel
theorem dX10_lay_40 : decode cX10_lay 40 = .ok (.goto (-23), 3) := by decide +kernel
theorem dX10_lay_43 : decode cX10_lay 43 = .ok (.return_, 1) := by decide +kernel
theorem dX10_put_0 : decode cX10_put 0 = .ok (.aload_n 0, 1) := by decide +kernel
theorem dX10_put_1 : decode cX10_put 1 = .ok (.aload_n 0, 1) := by decide +kernel
theorem dX10_put_2 : decode cX10_put 2 = .ok (.getfield 15, 3) := by decide +kernel
theorem dX10_put_5 : decode cX10_put 5 = .ok (.iload_n 1, 1) := by decide +kernel
theorem dX10_put_6 : decode cX10_put 6 = .ok (.iaload, 1) := by decide +kernel
theorem dX10_put_7 : decode cX10_put 7 = .ok (.lload_n 3, 1) := by decide +kernel
theorem dX10_put_8 : decode cX10_put 8 = .ok (.invokevirtual 22, 3) := by decide +kernel
theorem dX10_put_11 : decode cX10_put 11 = .ok (.lstore 5, 2) := by decide +kernel
theorem dX10_put_13 : decode cX10_put 13 = .ok (.aload_n 0, 1) := by decide +kernel
theorem dX10_put_14 : decode cX10_put 14 = .ok (.getfield 18, 3) := by decide +kernel
theorem dX10_put_17 : decode cX10_put 17 = .ok (.iload_n 1, 1) := by decide +kernel
theorem dX10_put_18 : decode cX10_put 18 = .ok (.bipush 40, 2) := by decide +kernel
theorem dX10_put_20 : decode cX10_put 20 = .ok (.imul, 1) := by decide +kernel
theorem dX10_put_21 : decode cX10_put 21 = .ok (.iload_n 2, 1) := by decide +kernel
theorem dX10_put_22 : decode cX10_put 22 = .ok (.iadd, 1) := by decide +kernel
theorem dX10_put_23 : decode cX10_put 23 = .ok (.lload 5, 2) := by decide +kernel
theorem dX10_put_25 : decode cX10_put 25 = .ok (.lastore, 1) := by decide +kernel
theorem dX10_put_26 : decode cX10_put 26 = .ok (.lload 5, 2) := by decide +kernel
theorem dX10_put_28 : decode cX10_put 28 = .ok (.lreturn, 1) := by decide +kernel
theorem dX10_cutTo_0 : decode cX10_cutTo 0 = .ok (.iload_n 1, 1) := by decide +kernel
theorem dX10_cutTo_1 : decode cX10_cutTo 1 = .ok (.tableswitch 41 0 2 #[27, 32, 37], 27) := by decide +kernel
theorem dX10_cutTo_28 : decode cX10_cutTo 28 = .ok (.lload_n 2, 1) := by decide +kernel
theorem dX10_cutTo_29 : decode cX10_cutTo 29 = .ok (.l2i, 1) := by decide +kernel
theorem dX10_cutTo_30 : decode cX10_cutTo 30 = .ok (.i2b, 1) := by decide +kernel
theorem dX10_cutTo_31 : decode cX10_cutTo 31 = .ok (.i2l, 1) := by decide +kernel
theorem dX10_cutTo_32 : decode cX10_cutTo 32 = .ok (.lreturn, 1) := by decide +kernel
theorem dX10_cutTo_33 : decode cX10_cutTo 33 = .ok (.lload_n 2, 1) := by decide +kernel
theorem dX10_cutTo_34 : decode cX10_cutTo 34 = .ok (.l2i, 1) := by decide +kernel
theorem dX10_cutTo_35 : decode cX10_cutTo 35 = .ok (.i2s, 1) := by decide +kernel
theorem dX10_cutTo_36 : decode cX10_cutTo 36 = .ok (.i2l, 1) := by decide +kernel
theorem dX10_cutTo_37 : decode cX10_cutTo 37 = .ok (.lreturn, 1) := by decide +kernel
theorem dX10_cutTo_38 : decode cX10_cutTo 38 = .ok (.lload_n 2, 1) := by decide +kernel
theorem dX10_cutTo_39 : decode cX10_cutTo 39 = .ok (.l2i, 1) := by decide +kernel
theorem dX10_cutTo_40 : decode cX10_cutTo 40 = .ok (.i2l, 1) := by decide +kernel
theorem dX10_cutTo_41 : decode cX10_cutTo 41 = .ok (.lreturn, 1) := by decide +kernel
theorem dX10_cutTo_42 : decode cX10_cutTo 42 = .ok (.lload_n 2, 1) := by decide +kernel
theorem dX10_cutTo_43 : decode cX10_cutTo 43 = .ok (.lreturn, 1) := by decide +kernel
theorem dX10_at_0 : decode cX10_at 0 = .ok (.aload_n 0, 1) := by decide +kernel
theorem dX10_at_1 : decode cX10_at 1 = .ok (.getfield 18, 3) := by decide +kernel
theorem dX10_at_4 : decode cX10_at 4 = .ok (.iload_n 1, 1) := by decide +kernel
theorem dX10_at_5 : decode cX10_at 5 = .ok (.bipush 40, 2) := by decide +kernel
theorem dX10_at_7 : decode cX10_at 7 = .ok (.imul, 1) := by decide +kernel
theorem dX10_at_8 : decode cX10_at 8 = .ok (.iload_n 2, 1) := by decide +kernel
theorem dX10_at_9 : decode cX10_at 9 = .ok (.iadd, 1) := by decide +kernel
theorem dX10_at_10 : decode cX10_at 10 = .ok (.laload, 1) := by decide +kernel
theorem dX10_at_11 : decode cX10_at 11 = .ok (.lreturn, 1) := by decide +kernel
theorem dX10_hasAllWithin_0 : decode cX10_hasAllWithin 0 = .ok (.iconst 0, 1) := by decide +kernel
theorem dX10_hasAllWithin_1 : decode cX10_hasAllWithin 1 = .ok (.istore 4, 2) := by decide +kernel
theorem dX10_hasAllWithin_3 : decode cX10_hasAllWithin 3 = .ok (.iload 4, 2) := by decide +kernel
theorem dX10_hasAllWithin_5 : decode cX10_hasAllWithin 5 = .ok (.aload_n 0, 1) := by decide +kernel
theorem dX10_hasAllWithin_6 : decode cX10_hasAllWithin 6 = .ok (.getfield 9, 3) := by decide +kernel
theorem dX10_hasAllWithin_9 : decode cX10_hasAllWithin 9 = .ok (.iload_n 1, 1) := by decide +kernel
theorem dX10_hasAllWithin_10 : decode cX10_hasAllWithin 10 = .ok (.iaload, 1) := by decide +kernel
theorem dX10_hasAllWithin_11 : decode cX10_hasAllWithin 11 = .ok (.if_icmp .ge 28, 3) := by decide +kernel
theorem dX10_hasAllWithin_14 : decode cX10_hasAllWithin 14 = .ok (.aload_n 0, 1) := by decide +kernel
theorem dX10_hasAllWithin_15 : decode cX10_hasAllWithin 15 = .ok (.iload_n 1, 1) := by decide +kernel
theorem dX10_hasAllWithin_16 : decode cX10_hasAllWithin 16 = .ok (.iload 4, 2) := by decide +kernel
theorem dX10_hasAllWithin_18 : decode cX10_hasAllWithin 18 = .ok (.invokevirtual 26, 3) := by decide +kernel
theorem dX10_hasAllWithin_21 : decode cX10_hasAllWithin 21 = .ok (.iload_n 2, 1) := by decide +kernel
theorem dX10_hasAllWithin_22 : decode cX10_hasAllWithin 22 = .ok (.i2l, 1) := by decide +kernel
theorem dX10_hasAllWithin_23 : decode cX10_hasAllWithin 23 = .ok (.iload_n 3, 1) := by decide +kernel
theorem dX10_hasAllWithin_24 : decode cX10_hasAllWithin 24 = .ok (.i2l, 1) := by decide +kernel
theorem dX10_hasAllWithin_25 : decode cX10_hasAllWithin 25 = .ok (.invokestatic 30, 3) := by decide +kernel
theorem dX10_hasAllWithin_28 : decode cX10_hasAllWithin 28 = .ok (.ifCond .ne 5, 3) := by decide +kernel
theorem dX10_hasAllWithin_31 : decode cX10_hasAllWithin 31 = .ok (.iconst 0, 1) := by decide +kernel
theorem dX10_hasAllWithin_32 : decode cX10_hasAllWithin 32 = .ok (.ireturn, 1) := by decide +kernel
theorem dX10_hasAllWithin_33 : decode cX10_hasAllWithin 33 = .ok (.iinc 4 1, 3) := by decide +kernel
theorem dX10_hasAllWithin_36 : decode cX10_hasAllWithin 36 = .ok (.goto (-33), 3) := by decide +kernel
theorem dX10_hasAllWithin_39 : decode cX10_hasAllWithin 39 = .ok (.iconst 1, 1) := by decide +kernel
theorem dX10_hasAllWithin_40 : decode cX10_hasAllWithin 40 = .ok (.ireturn, 1) := by decide +kernel
theorem dX11_init_0 : decode cX11_init 0 = .ok (.aload_n 0, 1) := by decide +kernel
theorem dX11_init_1 : decode cX11_init 1 = .ok (.invokespecial 1, 3) := by decide +kernel
theorem dX11_init_4 : decode cX11_init 4 = .ok (.aload_n 0, 1) := by decide +kernel
theorem dX11_init_5 : decode cX11_init 5 = .ok (.new 7, 3) := by decide +kernel
theorem dX11_init_8 : decode cX11_init 8 = .ok (.dup, 1) := by decide +kernel
theorem dX11_init_9 : decode cX11_init 9 = .ok (.invokespecial 9, 3) := by decide +kernel
theorem dX11_init_12 : decode cX11_init 12 = .ok (.putfield 10, 3) := by decide +kernel
theorem dX11_init_15 : decode cX11_init 15 = .ok (.aload_n 0, 1) := by decide +kernel
theorem dX11_init_16 : decode cX11_init 16 = .ok (.new 16, 3) := by decide +kernel
theorem dX11_init_19 : decode cX11_init 19 = .ok (.dup, 1) := by decide +kernel
theorem dX11_init_20 : decode cX11_init 20 = .ok (.aload_n 0, 1) := by decide +kernel
theorem dX11_init_21 : decode cX11_init 21 = .ok (.getfield 10, 3) := by decide +kernel
theorem dX11_init_24 : decode cX11_init 24 = .ok (.invokespecial 18, 3) := by decide +kernel
theorem dX11_init_27 : decode cX11_init 27 = .ok (.putfield 21, 3) := by decide +kernel
theorem dX11_init_30 : decode cX11_init 30 = .ok (.aload_n 0, 1) := by decide +kernel
theorem dX11_init_31 : decode cX11_init 31 = .ok (.new 25, 3) := by decide +kernel
theorem dX11_init_34 : decode cX11_init 34 = .ok (.dup, 1) := by decide +kernel
theorem dX11_init_35 : decode cX11_init 35 = .ok (.invokespecial 27, 3) := by decide +kernel
theorem dX11_init_38 : decode cX11_init 38 = .ok (.putfield 28, 3) := by decide +kernel
theorem dX11_init_41 : decode cX11_init 41 = .ok (.aload_n 0, 1) := by decide +kernel
theorem dX11_init_42 : decode cX11_init 42 = .ok (.new 32, 3) := by decide +kernel
theorem dX11_init_45 : decode cX11_init 45 = .ok (.dup, 1) := by decide +kernel
theorem dX11_init_46 : decode cX11_init 46 = .ok (.invokespecial 34, 3) := by decide +kernel
theorem dX11_init_49 : decode cX11_init 49 = .ok (.putfield 35, 3) := by decide +kernel
theorem dX11_init_52 : decode cX11_init 52 = .ok (.aload_n 0, 1) := by decide +kernel
theorem dX11_init_53 : decode cX11_init 53 = .ok (.new 32, 3) := by decide +kernel
theorem dX11_init_56 : decode cX11_init 56 = .ok (.dup, 1) := by decide +kernel
theorem dX11_init_57 : decode cX11_init 57 = .ok (.invokespecial 34, 3) := by decide +kernel
theorem dX11_init_60 : decode cX11_init 60 = .ok (.putfield 39, 3) := by decide +kernel
theorem dX11_init_63 : decode cX11_init 63 = .ok (.aload_n 0, 1) := by decide +kernel
theorem dX11_init_64 : decode cX11_init 64 = .ok (.new 32, 3) := by decide +kernel
theorem dX11_init_67 : decode cX11_init 67 = .ok (.dup, 1) := by decide +kernel
theorem dX11_init_68 : decode cX11_init 68 = .ok (.invokespecial 34, 3) := by decide +kernel
theorem dX11_init_71 : decode cX11_init 71 = .ok (.putfield 42, 3) := by decide +kernel
theorem dX11_init_74 : decode cX11_init 74 = .ok (.aload_n 0, 1) := by decide +kernel
theorem dX11_init_75 : decode cX11_init 75 = .ok (.new 45, 3) := by decide +kernel
theorem dX11_init_78 : decode cX11_init 78 = .ok (.dup, 1) := by decide +kernel
theorem dX11_init_79 : decode cX11_init 79 = .ok (.aload_n 0, 1) := by decide +kernel
theorem dX11_init_80 : decode cX11_init 80 = .ok (.getfield 10, 3) := by decide +kernel
theorem dX11_init_83 : decode cX11_init 83 = .ok (.aload_n 0, 1) := by decide +kernel
theorem dX11_init_84 : decode cX11_init 84 = .ok (.getfield 21, 3) := by decide +kernel
theorem dX11_init_87 : decode cX11_init 87 = .ok (.aload_n 0, 1) := by decide +kernel
theorem dX11_init_88 : decode cX11_init 88 = .ok (.getfield 39, 3) := by decide +kernel
theorem dX11_init_91 : decode cX11_init 91 = .ok (.invokespecial 47, 3) := by decide +kernel
theorem dX11_init_94 : decode cX11_init 94 = .ok (.putfield 50, 3) := by decide +kernel
theorem dX11_init_97 : decode cX11_init 97 = .ok (.aload_n 0, 1) := by decide +kernel
theorem dX11_init_98 : decode cX11_init 98 = .ok (.new 54, 3) := by decide +kernel
theorem dX11_init_101 : decode cX11_init 101 = .ok (.dup, 1) := by decide +kernel
theorem dX11_init_102 : decode cX11_init 102 = .ok (.invokespecial 56, 3) := by decide +kernel
theorem dX11_init_105 : decode cX11_init 105 = .ok (.putfield 57, 3) := by decide +kernel
theorem dX11_init_108 : decode cX11_init 108 = .ok (.aload_n 0, 1) := by decide +kernel
theorem dX11_init_109 : decode cX11_init 109 = .ok (.new 61, 3) := by decide +kernel
theorem dX11_init_112 : decode cX11_init 112 = .ok (.dup, 1) := by decide +kernel
theorem dX11_init_113 : decode cX11_init 113 = .ok (.invokespecial 63, 3) := by decide +kernel
theorem dX11_init_116 : decode cX11_init 116 = .ok (.putfield 64, 3) := by decide +kernel
theorem dX11_init_119 : decode cX11_init 119 = .ok (.aload_n 0, 1) := by decide +kernel
theorem dX11_init_120 : decode cX11_init 120 = .ok (.new 68, 3) := by decide +kernel
theorem dX11_init_123 : decode cX11_init 123 = .ok (.dup, 1) := by decide +kernel
theorem dX11_init_124 : decode cX11_init 124 = .ok (.aload_n 0, 1) := by decide +kernel
theorem dX11_init_125 : decode cX11_init 125 = .ok (.getfield 10, 3) := by decide +kernel
theorem dX11_init_128 : decode cX11_init 128 = .ok (.aload_n 0, 1) := by decide +kernel
theorem dX11_init_129 : decode cX11_init 129 = .ok (.getfield 21, 3) := by decide +kernel
theorem dX11_init_132 : decode cX11_init 132 = .ok (.invokespecial 70, 3) := by decide +kernel
theorem dX11_init_135 : decode cX11_init 135 = .ok (.putfield 73, 3) := by decide +kernel
theorem dX11_init_138 : decode cX11_init 138 = .ok (.aload_n 0, 1) := by decide +kernel
theorem dX11_init_139 : decode cX11_init 139 = .ok (.new 77, 3) := by decide +kernel
theorem dX11_init_142 : decode cX11_init 142 = .ok (.dup, 1) := by decide +kernel
theorem dX11_init_143 : decode cX11_init 143 = .ok (.invokespecial 79, 3) := by decide +kernel
theorem dX11_init_146 : decode cX11_init 146 = .ok (.putfield 80, 3) := by decide +kernel
theorem dX11_init_149 : decode cX11_init 149 = .ok (.aload_n 0, 1) := by decide +kernel
theorem dX11_init_150 : decode cX11_init 150 = .ok (.new 84, 3) := by decide +kernel
theorem dX11_init_153 : decode cX11_init 153 = .ok (.dup, 1) := by decide +kernel
theorem dX11_init_154 : decode cX11_init 154 = .ok (.invokespecial 86, 3) := by decide +kernel
theorem dX11_init_157 : decode cX11_init 157 = .ok (.putfield 87, 3) := by decide +kernel
theorem dX11_init_160 : decode cX11_init 160 = .ok (.aload_n 0, 1) := by decide +kernel
theorem dX11_init_161 : decode cX11_init 161 = .ok (.new 91, 3) := by decide +kernel
theorem dX11_init_164 : decode cX11_init 164 = .ok (.dup, 1) := by decide +kernel
theorem dX11_init_165 : decode cX11_init 165 = .ok (.invokespecial 93, 3) := by decide +kernel
theorem dX11_init_168 : decode cX11_init 168 = .ok (.putfield 94, 3) := by decide +kernel
theorem dX11_init_171 : decode cX11_init 171 = .ok (.aload_n 0, 1) := by decide +kernel
theorem dX11_init_172 : decode cX11_init 172 = .ok (.sipush 300, 3) := by decide +kernel
theorem dX11_init_175 : decode cX11_init 175 = .ok (.newarray .int, 2) := by decide +kernel
theorem dX11_init_177 : decode cX11_init 177 = .ok (.putfield 98, 3) := by decide +kernel
theorem dX11_init_180 : decode cX11_init 180 = .ok (.aload_n 0, 1) := by decide +kernel
theorem dX11_init_181 : decode cX11_init 181 = .ok (.iconst 0, 1) := by decide +kernel
theorem dX11_init_182 : decode cX11_init 182 = .ok (.putfield 102, 3) := by decide +kernel
theorem dX11_init_185 : decode cX11_init 185 = .ok (.aload_n 0, 1) := by decide +kernel
theorem dX11_init_186 : decode cX11_init 186 = .ok (.bipush 60, 2) := by decide +kernel
theorem dX11_init_188 : decode cX11_init 188 = .ok (.newarray .int, 2) := by decide +kernel
theorem dX11_init_190 : decode cX11_init 190 = .ok (.putfield 106, 3) := by decide +kernel
theorem dX11_init_193 : decode cX11_init 193 = .ok (.return_, 1) := by decide +kernel
theorem dX11_go_0 : decode cX11_go 0 = .ok (.iload_n 1, 1) := by decide +kernel
theorem dX11_go_1 : decode cX11_go 1 = .ok (.iconst 1, 1) := by decide +kernel
theorem dX11_go_2 : decode cX11_go 2 = .ok (.if_icmp .lt 10, 3) := by decide +kernel
theorem dX11_go_5 : decode cX11_go 5 = .ok (.iload_n 1, 1) := by decide +kernel
theorem dX11_go_6 : decode cX11_go 6 = .ok (.sipush 10000, 3) := by decide +kernel
theorem dX11_go_9 : decode cX11_go 9 = .ok (.if_icmp .le 13, 3) := by decide +kernel
theorem dX11_go_12 : decode cX11_go 12 = .ok (.new 109, 3) := by decide +kernel
theorem dX11_go_15 : decode cX11_go 15 = .ok (.dup, 1) := by decide +kernel
theorem dX11_go_16 : decode cX11_go 16 = .ok (.ldc 111, 2) := by decide +kernel
theorem dX11_go_18 : decode cX11_go 18 = .ok (.invokespecial 113, 3) := by decide +kernel
theorem dX11_go_21 : decode cX11_go 21 = .ok (.athrow, 1) := by decide +kernel
theorem dX11_go_22 : decode cX11_go 22 = .ok (.aload_n 0, 1) := by decide +kernel
theorem dX11_go_23 : decode cX11_go 23 = .ok (.getfield 10, 3) := by decide +kernel
theorem dX11_go_26 : decode cX11_go 26 = .ok (.getfield 116, 3) := by decide +kernel
theorem dX11_go_29 : decode cX11_go 29 = .ok (.iload_n 1, 1) := by decide +kernel
theorem dX11_go_30 : decode cX11_go 30 = .ok (.iadd, 1) := by decide +kernel
theorem dX11_go_31 : decode cX11_go 31 = .ok (.ldc 119, 2) := by decide +kernel
theorem dX11_go_33 : decode cX11_go 33 = .ok (.if_icmp .le 13, 3) := by decide +kernel
theorem dX11_go_36 : decode cX11_go 36 = .ok (.new 120, 3) := by decide +kernel
theorem dX11_go_39 : decode cX11_go 39 = .ok (.dup, 1) := by decide +kernel
theorem dX11_go_40 : decode cX11_go 40 = .ok (.ldc 122, 2) := by decide +kernel
theorem dX11_go_42 : decode cX11_go 42 = .ok (.invokespecial 124, 3) := by decide +kernel
theorem dX11_go_45 : decode cX11_go 45 = .ok (.athrow, 1) := by decide +kernel
theorem dX11_go_46 : decode cX11_go 46 = .ok (.aload_n 0, 1) := by decide +kernel
theorem dX11_go_47 : decode cX11_go 47 = .ok (.getfield 10, 3) := by decide +kernel
theorem dX11_go_50 : decode cX11_go 50 = .ok (.dup, 1) := by decide +kernel
theorem dX11_go_51 : decode cX11_go 51 = .ok (.getfield 116, 3) := by decide +kernel
theorem dX11_go_54 : decode cX11_go 54 = .ok (.iload_n 1, 1) := by decide +kernel
theorem dX11_go_55 : decode cX11_go 55 = .ok (.iadd, 1) := by decide +kernel
theorem dX11_go_56 : decode cX11_go 56 = .ok (.putfield 116, 3) := by decide +kernel
theorem dX11_go_59 : decode cX11_go 59 = .ok (.aload_n 0, 1) := by decide +kernel
theorem dX11_go_60 : decode cX11_go 60 = .ok (.invokevirtual 125, 3) := by decide +kernel
theorem dX11_go_63 : decode cX11_go 63 = .ok (.ireturn, 1) := by decide +kernel
theorem dX11_place_0 : decode cX11_place 0 = .ok (.iload_n 1, 1) := by decide +kernel
theorem dX11_place_1 : decode cX11_place 1 = .ok (.i2l, 1) := by decide +kernel
theorem dX11_place_2 : decode cX11_place 2 = .ok (.lconst 0, 1) := by decide +kernel
theorem dX11_place_3 : decode cX11_place 3 = .ok (.ldc2_w 129, 3) := by decide +kernel
theorem dX11_place_6 : decode cX11_place 6 = .ok (.invokestatic 131, 3) := by decide +kernel
theorem dX11_place_9 : decode cX11_place 9 = .ok (.ifCond .eq 27, 3) := by decide +kernel
theorem dX11_place_12 : decode cX11_place 12 = .ok (.iload_n 2, 1) := by decide +kernel
theorem dX11_place_13 : decode cX11_place 13 = .ok (.i2l, 1) := by decide +kernel
theorem dX11_place_14 : decode cX11_place 14 = .ok (.lconst 0, 1) := by decide +kernel
theorem dX11_place_15 : decode cX11_place 15 = .ok (.ldc2_w 129, 3) := by decide +kernel
theorem dX11_place_18 : decode cX11_place 18 = .ok (.invokestatic 131, 3) := by decide +kernel
theorem dX11_place_21 : decode cX11_place 21 = .ok (.ifCond .eq 15, 3) := by decide +kernel
theorem dX11_place_24 : decode cX11_place 24 = .ok (.iload_n 3, 1) := by decide +kernel
theorem dX11_place_25 : decode cX11_place 25 = .ok (.i2l, 1) := by decide +kernel
theorem dX11_place_26 : decode cX11_place 26 = .ok (.lconst 0, 1) := by decide +kernel
theorem dX11_place_27 : decode cX11_place 27 = .ok (.ldc2_w 135, 3) := by decide +kernel
theorem dX11_place_30 : decode cX11_place 30 = .ok (.invokestatic 131, 3) := by decide +kernel
theorem dX11_place_33 : decode cX11_place 33 = .ok (.ifCond .ne 13, 3) := by decide +kernel
theorem dX11_place_36 : decode cX11_place 36 = .ok (.new 109, 3) := by decide +kernel
theorem dX11_place_39 : decode cX11_place 39 = .ok (.dup, 1) := by decide +kernel
theorem dX11_place_40 : decode cX11_place 40 = .ok (.ldc 137, 2) := by decide +kernel
theorem dX11_place_42 : decode cX11_place 42 = .ok (.invokespecial 113, 3) := by decide +kernel
theorem dX11_place_45 : decode cX11_place 45 = .ok (.athrow, 1) := by decide +kernel
theorem dX11_place_46 : decode cX11_place 46 = .ok (.aload_n 0, 1) := by decide +kernel
theorem dX11_place_47 : decode cX11_place 47 = .ok (.getfield 10, 3) := by decide +kernel
theorem dX11_place_50 : decode cX11_place 50 = .ok (.iload_n 1, 1) := by decide +kernel
theorem dX11_place_51 : decode cX11_place 51 = .ok (.iload_n 2, 1) := by decide +kernel
theorem dX11_place_52 : decode cX11_place 52 = .ok (.iload_n 3, 1) := by decide +kernel
theorem dX11_place_53 : decode cX11_place 53 = .ok (.invokevirtual 139, 3) := by decide +kernel
theorem dX11_place_56 : decode cX11_place 56 = .ok (.ireturn, 1) := by decide +kernel
theorem dX11_mark_0 : decode cX11_mark 0 = .ok (.aload_n 0, 1) := by decide +kernel
theorem dX11_mark_1 : decode cX11_mark 1 = .ok (.getfield 10, 3) := by decide +kernel
theorem dX11_mark_4 : decode cX11_mark 4 = .ok (.invokevirtual 143, 3) := by decide +kernel
theorem dX11_mark_7 : decode cX11_mark 7 = .ok (.ireturn, 1) := by decide +kernel
theorem dX11_hand_0 : decode cX11_hand 0 = .ok (.iload_n 1, 1) := by decide +kernel
theorem dX11_hand_1 : decode cX11_hand 1 = .ok (.iconst (-1), 1) := by decide +kernel
theorem dX11_hand_2 : decode cX11_hand 2 = .ok (.if_icmp .eq 8, 3) := by decide +kernel
theorem dX11_hand_5 : decode cX11_hand 5 = .ok (.aload_n 0, 1) := by decide +kernel
theorem dX11_hand_6 : decode cX11_hand 6 = .ok (.iload_n 1, 1) := by decide +kernel
theorem dX11_hand_7 : decode cX11_hand 7 = .ok (.invokevirtual 146, 3) := by decide +kernel
theorem dX11_hand_10 : decode cX11_hand 10 = .ok (.aload_n 0, 1) := by decide +kernel
theorem dX11_hand_11 : decode cX11_hand 11 = .ok (.getfield 10, 3) := by decide +kernel
theorem dX11_hand_14 : decode cX11_hand 14 = .ok (.iload_n 1, 1) := by decide +kernel
theorem dX11_hand_15 : decode cX11_hand 15 = .ok (.invokevirtual 150, 3) := by decide +kernel
theorem dX11_hand_18 : decode cX11_hand 18 = .ok (.ireturn, 1) := by decide +kernel
theorem dX11_officer_0 : decode cX11_officer 0 = .ok (.iload_n 1, 1) := by decide +kernel
theorem dX11_officer_1 : decode cX11_officer 1 = .ok (.i2l, 1) := by decide +kernel
theorem dX11_officer_2 : decode cX11_officer 2 = .ok (.lconst 0, 1) := by decide +kernel
theorem dX11_officer_3 : decode cX11_officer 3 = .ok (.ldc2_w 135, 3) := by decide +kernel
theorem dX11_officer_6 : decode cX11_officer 6 = .ok (.invokestatic 131, 3) := by decide +kernel
theorem dX11_officer_9 : decode cX11_officer 9 = .ok (.ifCond .eq 15, 3) := by decide +kernel
theorem dX11_officer_12 : decode cX11_officer 12 = .ok (.iload_n 2, 1) := by decide +kernel
theorem dX11_officer_13 : decode cX11_officer 13 = .ok (.i2l, 1) := by decide +kernel
theorem dX11_officer_14 : decode cX11_officer 14 = .ok (.lconst 0, 1) := by decide +kernel
theorem dX11_officer_15 : decode cX11_officer 15 = .ok (.ldc2_w 154, 3) := by decide +kernel
theorem dX11_officer_18 : decode cX11_officer 18 = .ok (.invokestatic 131, 3) := by decide +kernel
theorem dX11_officer_21 : decode cX11_officer 21 = .ok (.ifCond .ne 13, 3) := by decide +kernel
theorem dX11_officer_24 : decode cX11_officer 24 = .ok (.new 109, 3) := by decide +kernel
theorem dX11_officer_27 : decode cX11_officer 27 = .ok (.dup, 1) := by decide +kernel
theorem dX11_officer_28 : decode cX11_officer 28 = .ok (.ldc 156, 2) := by decide +kernel
theorem dX11_officer_30 : decode cX11_officer 30 = .ok (.invokespecial 113, 3) := by decide +kernel
theorem dX11_officer_33 : decode cX11_officer 33 = .ok (.athrow, 1) := by decide +kernel
theorem dX11_officer_34 : decode cX11_officer 34 = .ok (.aload_n 0, 1) := by decide +kernel
theorem dX11_officer_35 : decode cX11_officer 35 = .ok (.getfield 10, 3) := by decide +kernel
theorem dX11_officer_38 : decode cX11_officer 38 = .ok (.iload_n 1, 1) := by decide +kernel
theorem dX11_officer_39 : decode cX11_officer 39 = .ok (.iload_n 2, 1) := by decide +kernel
theorem dX11_officer_40 : decode cX11_officer 40 = .ok (.invokevirtual 158, 3) := by decide +kernel
theorem dX11_officer_43 : decode cX11_officer 43 = .ok (.ireturn, 1) := by decide +kernel
theorem dX11_deed_0 : decode cX11_deed 0 = .ok (.aload_n 0, 1) := by decide +kernel
theorem dX11_deed_1 : decode cX11_deed 1 = .ok (.iload_n 1, 1) := by decide +kernel
theorem dX11_deed_2 : decode cX11_deed 2 = .ok (.invokevirtual 146, 3) := by decide +kernel
theorem dX11_deed_5 : decode cX11_deed 5 = .ok (.iload_n 2, 1) := by decide +kernel
theorem dX11_deed_6 : decode cX11_deed 6 = .ok (.ifCond .lt 19, 3) := by decide +kernel
theorem dX11_deed_9 : decode cX11_deed 9 = .ok (.iload_n 3, 1) := by decide +kernel
theorem dX11_deed_10 : decode cX11_deed 10 = .ok (.iload_n 2, 1) := by decide +kernel
theorem dX11_deed_11 : decode cX11_deed 11 = .ok (.if_icmp .lt 14, 3) := by decide +kernel
theorem dX11_deed_14 : decode cX11_deed 14 = .ok (.iload_n 3, 1) := by decide +kernel
theorem dX11_deed_15 : decode cX11_deed 15 = .ok (.aload_n 0, 1) := by decide +kernel
theorem dX11_deed_16 : decode cX11_deed 16 = .ok (.getfield 10, 3) := by decide +kernel
theorem dX11_deed_19 : decode cX11_deed 19 = .ok (.getfield 116, 3) := by decide +kernel
theorem dX11_deed_22 : decode cX11_deed 22 = .ok (.if_icmp .le 13, 3) := by decide +kernel
theorem dX11_deed_25 : decode cX11_deed 25 = .ok (.new 109, 3) := by decide +kernel
theorem dX11_deed_28 : decode cX11_deed 28 = .ok (.dup, 1) := by decide +kernel
theorem dX11_deed_29 : decode cX11_deed 29 = .ok (.ldc 162, 2) := by decide +kernel
theorem dX11_deed_31 : decode cX11_deed 31 = .ok (.invokespecial 113, 3) := by decide +kernel
theorem dX11_deed_34 : decode cX11_deed 34 = .ok (.athrow, 1) := by decide +kernel
theorem dX11_deed_35 : decode cX11_deed 35 = .ok (.aload_n 0, 1) := by decide +kernel
theorem dX11_deed_36 : decode cX11_deed 36 = .ok (.getfield 21, 3) := by decide +kernel
theorem dX11_deed_39 : decode cX11_deed 39 = .ok (.iload_n 1, 1) := by decide +kernel
theorem dX11_deed_40 : decode cX11_deed 40 = .ok (.iload_n 2, 1) := by decide +kernel
theorem dX11_deed_41 : decode cX11_deed 41 = .ok (.iload_n 3, 1) := by decide +kernel
theorem dX11_deed_42 : decode cX11_deed 42 = .ok (.invokevirtual 164, 3) := by decide +kernel
theorem dX11_deed_45 : decode cX11_deed 45 = .ok (.ireturn, 1) := by decide +kernel
theorem dX11_tell_0 : decode cX11_tell 0 = .ok (.aload_n 0, 1) := by decide +kernel
theorem dX11_tell_1 : decode cX11_tell 1 = .ok (.iload_n 1, 1) := by decide +kernel
theorem dX11_tell_2 : decode cX11_tell 2 = .ok (.invokevirtual 167, 3) := by decide +kernel
theorem dX11_tell_5 : decode cX11_tell 5 = .ok (.aload_n 0, 1) := by decide +kernel
theorem dX11_tell_6 : decode cX11_tell 6 = .ok (.iload_n 2, 1) := by decide +kernel
theorem dX11_tell_7 : decode cX11_tell 7 = .ok (.invokevirtual 170, 3) := by decide +kernel
theorem dX11_tell_10 : decode cX11_tell 10 = .ok (.iload_n 3, 1) := by decide +kernel
theorem dX11_tell_11 : decode cX11_tell 11 = .ok (.i2l, 1) := by decide +kernel
theorem dX11_tell_12 : decode cX11_tell 12 = .ok (.lconst 0, 1) := by decide +kernel
theorem dX11_tell_13 : decode cX11_tell 13 = .ok (.ldc2_w 173, 3) := by decide +kernel
theorem dX11_tell_16 : decode cX11_tell 16 = .ok (.invokestatic 131, 3) := by decide +kernel
theorem dX11_tell_19 : decode cX11_tell 19 = .ok (.ifCond .ne 13, 3) := by decide +kernel
theorem dX11_tell_22 : decode cX11_tell 22 = .ok (.new 109, 3) := by decide +kernel
theorem dX11_tell_25 : decode cX11_tell 25 = .ok (.dup, 1) := by decide +kernel
theorem dX11_tell_26 : decode cX11_tell 26 = .ok (.ldc 175, 2) := by decide +kernel
theorem dX11_tell_28 : decode cX11_tell 28 = .ok (.invokespecial 113, 3) := by decide +kernel
theorem dX11_tell_31 : decode cX11_tell 31 = .ok (.athrow, 1) := by decide +kernel
theorem dX11_tell_32 : decode cX11_tell 32 = .ok (.aload_n 0, 1) := by decide +kernel
theorem dX11_tell_33 : decode cX11_tell 33 = .ok (.getfield 35, 3) := by decide +kernel
theorem dX11_tell_36 : decode cX11_tell 36 = .ok (.iload_n 1, 1) := by decide +kernel
theorem dX11_tell_37 : decode cX11_tell 37 = .ok (.iload_n 2, 1) := by decide +kernel
theorem dX11_tell_38 : decode cX11_tell 38 = .ok (.invokevirtual 177, 3) := by decide +kernel
theorem dX11_tell_41 : decode cX11_tell 41 = .ok (.istore 4, 2) := by decide +kernel
theorem dX11_tell_43 : decode cX11_tell 43 = .ok (.aload_n 0, 1) := by decide +kernel
theorem dX11_tell_44 : decode cX11_tell 44 = .ok (.iload_n 1, 1) := by decide +kernel
theorem dX11_tell_45 : decode cX11_tell 45 = .ok (.iload_n 2, 1) := by decide +kernel
theorem dX11_tell_46 : decode cX11_tell 46 = .ok (.iload_n 3, 1) := by decide +kernel
theorem dX11_tell_47 : decode cX11_tell 47 = .ok (.invokevirtual 180, 3) := by decide +kernel
theorem dX11_tell_50 : decode cX11_tell 50 = .ok (.iload 4, 2) := by decide +kernel
theorem dX11_tell_52 : decode cX11_tell 52 = .ok (.ireturn, 1) := by decide +kernel
theorem dX11_state_0 : decode cX11_state 0 = .ok (.aload_n 0, 1) := by decide +kernel
theorem dX11_state_1 : decode cX11_state 1 = .ok (.iload_n 1, 1) := by decide +kernel
theorem dX11_state_2 : decode cX11_state 2 = .ok (.invokevirtual 167, 3) := by decide +kernel
theorem dX11_state_5 : decode cX11_state 5 = .ok (.aload_n 0, 1) := by decide +kernel
theorem dX11_state_6 : decode cX11_state 6 = .ok (.iload_n 2, 1) := by decide +kernel
theorem dX11_state_7 : decode cX11_state 7 = .ok (.invokevirtual 170, 3) := by decide +kernel
theorem dX11_state_10 : decode cX11_state 10 = .ok (.aload_n 0, 1) := by decide +kernel
theorem dX11_state_11 : decode cX11_state 11 = .ok (.iload_n 3, 1) := by decide +kernel
theorem dX11_state_12 : decode cX11_state 12 = .ok (.invokevirtual 184, 3) := by decide +kernel
theorem dX11_state_15 : decode cX11_state 15 = .ok (.iload_n 1, 1) := by decide +kernel
theorem dX11_state_16 : decode cX11_state 16 = .ok (.iload_n 2, 1) := by decide +kernel
theorem dX11_state_17 : decode cX11_state 17 = .ok (.invokevirtual 177, 3) := by decide +kernel
theorem dX11_state_20 : decode cX11_state 20 = .ok (.ireturn, 1) := by decide +kernel
theorem dX11_doubt_0 : decode cX11_doubt 0 = .ok (.aload_n 0, 1) := by decide +kernel
theorem dX11_doubt_1 : decode cX11_doubt 1 = .ok (.iload_n 1, 1) := by decide +kernel
theorem dX11_doubt_2 : decode cX11_doubt 2 = .ok (.invokevirtual 167, 3) := by decide +kernel
theorem dX11_doubt_5 : decode cX11_doubt 5 = .ok (.aload_n 0, 1) := by decide +kernel
theorem dX11_doubt_6 : decode cX11_doubt 6 = .ok (.getfield 21, 3) := by decide +kernel
theorem dX11_doubt_9 : decode cX11_doubt 9 = .ok (.getfield 188, 3) := by decide +kernel
theorem dX11_doubt_12 : decode cX11_doubt 12 = .ok (.iload_n 1, 1) := by decide +kernel
theorem dX11_doubt_13 : decode cX11_doubt 13 = .ok (.invokestatic 192, 3) := by decide +kernel
theorem dX11_doubt_16 : decode cX11_doubt 16 = .ok (.istore_n 3, 1) := by decide +kernel
theorem dX11_doubt_17 : decode cX11_doubt 17 = .ok (.aload_n 0, 1) := by decide +kernel
theorem dX11_doubt_18 : decode cX11_doubt 18 = .ok (.getfield 21, 3) := by decide +kernel
theorem dX11_doubt_21 : decode cX11_doubt 21 = .ok (.iload_n 2, 1) := by decide +kernel
theorem dX11_doubt_22 : decode cX11_doubt 22 = .ok (.ifCond .eq 18, 3) := by decide +kernel
theorem dX11_doubt_25 : decode cX11_doubt 25 = .ok (.aload_n 0, 1) := by decide +kernel
theorem dX11_doubt_26 : decode cX11_doubt 26 = .ok (.getfield 21, 3) := by decide +kernel
theorem dX11_doubt_29 : decode cX11_doubt 29 = .ok (.getfield 188, 3) := by decide +kernel
theorem dX11_doubt_32 : decode cX11_doubt 32 = .ok (.iload_n 1, 1) := by decide +kernel
theorem dX11_doubt_33 : decode cX11_doubt 33 = .ok (.invokestatic 196, 3) := by decide +kernel
theorem dX11_doubt_36 : decode cX11_doubt 36 = .ok (.lor, 1) := by decide +kernel
theorem dX11_doubt_37 : decode cX11_doubt 37 = .ok (.goto 19, 3) := by decide +kernel
theorem dX11_doubt_40 : decode cX11_doubt 40 = .ok (.aload_n 0, 1) := by decide +kernel
theorem dX11_doubt_41 : decode cX11_doubt 41 = .ok (.getfield 21, 3) := by decide +kernel
theorem dX11_doubt_44 : decode cX11_doubt 44 = .ok (.getfield 188, 3) := by decide +kernel
theorem dX11_doubt_47 : decode cX11_doubt 47 = .ok (.iload_n 1, 1) := by decide +kernel
theorem dX11_doubt_48 : decode cX11_doubt 48 = .ok (.invokestatic 196, 3) := by decide +kernel
theorem dX11_doubt_51 : decode cX11_doubt 51 = .ok (.ldc2_w 200, 3) := by decide +kernel
theorem dX11_doubt_54 : decode cX11_doubt 54 = .ok (.lxor, 1) := by decide +kernel
theorem dX11_doubt_55 : decode cX11_doubt 55 = .ok (.land, 1) := by decide +kernel
theorem dX11_doubt_56 : decode cX11_doubt 56 = .ok (.putfield 188, 3) := by decide +kernel
theorem dX11_doubt_59 : decode cX11_doubt 59 = .ok (.iload_n 3, 1) := by decide +kernel
theorem dX11_doubt_60 : decode cX11_doubt 60 = .ok (.ireturn, 1) := by decide +kernel
theorem dX11_solve_0 : decode cX11_solve 0 = .ok (.aload_n 0, 1) := by decide +kernel
theorem dX11_solve_1 : decode cX11_solve 1 = .ok (.iload_n 1, 1) := by decide +kernel
theorem dX11_solve_2 : decode cX11_solve 2 = .ok (.invokevirtual 167, 3) := by decide +kernel
theorem dX11_solve_5 : decode cX11_solve 5 = .ok (.iload_n 2, 1) := by decide +kernel
theorem dX11_solve_6 : decode cX11_solve 6 = .ok (.iconst (-1), 1) := by decide +kernel
theorem dX11_solve_7 : decode cX11_solve 7 = .ok (.if_icmp .ne 8, 3) := by decide +kernel
theorem dX11_solve_10 : decode cX11_solve 10 = .ok (.iload_n 3, 1) := by decide +kernel
theorem dX11_solve_11 : decode cX11_solve 11 = .ok (.iconst (-1), 1) := by decide +kernel
theorem dX11_solve_12 : decode cX11_solve 12 = .ok (.if_icmp .eq 13, 3) := by decide +kernel
theorem dX11_solve_15 : decode cX11_solve 15 = .ok (.aload_n 0, 1) := by decide +kernel
theorem dX11_solve_16 : decode cX11_solve 16 = .ok (.iload_n 2, 1) := by decide +kernel
theorem dX11_solve_17 : decode cX11_solve 17 = .ok (.invokevirtual 202, 3) := by decide +kernel
theorem dX11_solve_20 : decode cX11_solve 20 = .ok (.aload_n 0, 1) := by decide +kernel
theorem dX11_solve_21 : decode cX11_solve 21 = .ok (.iload_n 3, 1) := by decide +kernel
theorem dX11_solve_22 : decode cX11_solve 22 = .ok (.invokevirtual 202, 3) := by decide +kernel
theorem dX11_solve_25 : decode cX11_solve 25 = .ok (.aload_n 0, 1) := by decide +kernel
theorem dX11_solve_26 : decode cX11_solve 26 = .ok (.getfield 21, 3) := by decide +kernel
theorem dX11_solve_29 : decode cX11_solve 29 = .ok (.iload_n 1, 1) := by decide +kernel
theorem dX11_solve_30 : decode cX11_solve 30 = .ok (.iload_n 2, 1) := by decide +kernel
theorem dX11_solve_31 : decode cX11_solve 31 = .ok (.iload_n 3, 1) := by decide +kernel
theorem dX11_solve_32 : decode cX11_solve 32 = .ok (.invokevirtual 205, 3) := by decide +kernel
theorem dX11_solve_35 : decode cX11_solve 35 = .ok (.return_, 1) := by decide +kernel
theorem dX11_bar_0 : decode cX11_bar 0 = .ok (.aload_n 0, 1) := by decide +kernel
theorem dX11_bar_1 : decode cX11_bar 1 = .ok (.iload_n 1, 1) := by decide +kernel
theorem dX11_bar_2 : decode cX11_bar 2 = .ok (.iload_n 2, 1) := by decide +kernel
theorem dX11_bar_3 : decode cX11_bar 3 = .ok (.invokevirtual 208, 3) := by decide +kernel
theorem dX11_bar_6 : decode cX11_bar 6 = .ok (.aload_n 0, 1) := by decide +kernel
theorem dX11_bar_7 : decode cX11_bar 7 = .ok (.getfield 21, 3) := by decide +kernel
theorem dX11_bar_10 : decode cX11_bar 10 = .ok (.iload_n 1, 1) := by decide +kernel
theorem dX11_bar_11 : decode cX11_bar 11 = .ok (.iload_n 2, 1) := by decide +kernel
theorem dX11_bar_12 : decode cX11_bar 12 = .ok (.invokevirtual 212, 3) := by decide +kernel
theorem dX11_bar_15 : decode cX11_bar 15 = .ok (.ireturn, 1) := by decide +kernel
theorem dX11_are_0 : decode cX11_are 0 = .ok (.aload_n 0, 1) := by decide +kernel
theorem dX11_are_1 : decode cX11_are 1 = .ok (.iload_n 1, 1) := by decide +kernel
theorem dX11_are_2 : decode cX11_are 2 = .ok (.iload_n 2, 1) := by decide +kernel
theorem dX11_are_3 : decode cX11_are 3 = .ok (.invokevirtual 208, 3) := by decide +kernel
theorem dX11_are_6 : decode cX11_are 6 = .ok (.aload_n 0, 1) := by decide +kernel
theorem dX11_are_7 : decode cX11_are 7 = .ok (.getfield 21, 3) := by decide +kernel
theorem dX11_are_10 : decode cX11_are 10 = .ok (.iload_n 1, 1) := by decide +kernel
theorem dX11_are_11 : decode cX11_are 11 = .ok (.invokevirtual 216, 3) := by decide +kernel
theorem dX11_are_14 : decode cX11_are 14 = .ok (.iload_n 2, 1) := by decide +kernel
theorem dX11_are_15 : decode cX11_are 15 = .ok (.invokestatic 192, 3) := by decide +kernel
theorem dX11_are_18 : decode cX11_are 18 = .ok (.ifCond .eq 5, 3) := by decide +kernel
theorem dX11_are_21 : decode cX11_are 21 = .ok (.iconst 1, 1) := by decide +kernel
theorem dX11_are_22 : decode cX11_are 22 = .ok (.ireturn, 1) := by decide +kernel
theorem dX11_are_23 : decode cX11_are 23 = .ok (.aload_n 0, 1) := by decide +kernel
theorem dX11_are_24 : decode cX11_are 24 = .ok (.getfield 21, 3) := by decide +kernel
theorem dX11_are_27 : decode cX11_are 27 = .ok (.iload_n 1, 1) := by decide +kernel
theorem dX11_are_28 : decode cX11_are 28 = .ok (.invokevirtual 219, 3) := by decide +kernel
theorem dX11_are_31 : decode cX11_are 31 = .ok (.iload_n 2, 1) := by decide +kernel
theorem dX11_are_32 : decode cX11_are 32 = .ok (.invokestatic 192, 3) := by decide +kernel
theorem dX11_are_35 : decode cX11_are 35 = .ok (.ifCond .eq 7, 3) := by decide +kernel
theorem dX11_are_38 : decode cX11_are 38 = .ok (.iconst 2, 1) := by decide +kernel
theorem dX11_are_39 : decode cX11_are 39 = .ok (.goto 4, 3) := by decide +kernel
theorem dX11_are_42 : decode cX11_are 42 = .ok (.iconst 0, 1) := by decide +kernel
theorem dX11_are_43 : decode cX11_are 43 = .ok (.ireturn, 1) := by decide +kernel
theorem dX11_link_0 : decode cX11_link 0 = .ok (.aload_n 0, 1) := by decide +kernel
theorem dX11_link_1 : decode cX11_link 1 = .ok (.iload_n 1, 1) := by decide +kernel
theorem dX11_link_2 : decode cX11_link 2 = .ok (.invokevirtual 222, 3) := by decide +kernel
theorem dX11_link_5 : decode cX11_link 5 = .ok (.aload_n 0, 1) := by decide +kernel
theorem dX11_link_6 : decode cX11_link 6 = .ok (.iload_n 2, 1) := by decide +kernel
theorem dX11_link_7 : decode cX11_link 7 = .ok (.iload_n 3, 1) := by decide +kernel
theorem dX11_link_8 : decode cX11_link 8 = .ok (.invokevirtual 208, 3) := by decide +kernel
theorem dX11_link_11 : decode cX11_link 11 = .ok (.aload_n 0, 1) := by decide +kernel
theorem dX11_link_12 : decode cX11_link 12 = .ok (.getfield 28, 3) := by decide +kernel
theorem dX11_link_15 : decode cX11_link 15 = .ok (.iload_n 1, 1) := by decide +kernel
theorem dX11_link_16 : decode cX11_link 16 = .ok (.iload_n 2, 1) := by decide +kernel
theorem dX11_link_17 : decode cX11_link 17 = .ok (.iload_n 3, 1) := by decide +kernel
theorem dX11_link_18 : decode cX11_link 18 = .ok (.invokevirtual 225, 3) := by decide +kernel
theorem dX11_link_21 : decode cX11_link 21 = .ok (.ireturn, 1) := by decide +kernel
theorem dX11_right_0 : decode cX11_right 0 = .ok (.aload_n 0, 1) := by decide +kernel
theorem dX11_right_1 : decode cX11_right 1 = .ok (.iload_n 1, 1) := by decide +kernel
theorem dX11_right_2 : decode cX11_right 2 = .ok (.invokevirtual 222, 3) := by decide +kernel
theorem dX11_right_5 : decode cX11_right 5 = .ok (.iconst 0, 1) := by decide +kernel
theorem dX11_right_6 : decode cX11_right 6 = .ok (.istore_n 3, 1) := by decide +kernel
theorem dX11_right_7 : decode cX11_right 7 = .ok (.iconst 0, 1) := by decide +kernel
theorem dX11_right_8 : decode cX11_right 8 = .ok (.istore 4, 2) := by decide +kernel
theorem dX11_right_10 : decode cX11_right 10 = .ok (.iload 4, 2) := by decide +kernel
theorem dX11_right_12 : decode cX11_right 12 = .ok (.aload_n 0, 1) := by decide +kernel
theorem dX11_right_13 : decode cX11_right 13 = .ok (.getfield 28, 3) := by decide +kernel
theorem dX11_right_16 : decode cX11_right 16 = .ok (.getfield 226, 3) := by decide +kernel
theorem dX11_right_19 : decode cX11_right 19 = .ok (.if_icmp .ge 54, 3) := by decide +kernel
theorem dX11_right_22 : decode cX11_right 22 = .ok (.aload_n 0, 1) := by decide +kernel
theorem dX11_right_23 : decode cX11_right 23 = .ok (.getfield 28, 3) := by decide +kernel
theorem dX11_right_26 : decode cX11_right 26 = .ok (.getfield 229, 3) := by decide +kernel
theorem dX11_right_29 : decode cX11_right 29 = .ok (.iload 4, 2) := by decide +kernel
theorem dX11_right_31 : decode cX11_right 31 = .ok (.iaload, 1) := by decide +kernel
theorem dX11_right_32 : decode cX11_right 32 = .ok (.iload_n 1, 1) := by decide +kernel
theorem dX11_right_33 : decode cX11_right 33 = .ok (.if_icmp .ne 34, 3) := by decide +kernel
theorem dX11_right_36 : decode cX11_right 36 = .ok (.aload_n 0, 1) := by decide +kernel
theorem dX11_right_37 : decode cX11_right 37 = .ok (.aload_n 0, 1) := by decide +kernel
theorem dX11_right_38 : decode cX11_right 38 = .ok (.getfield 28, 3) := by decide +kernel
theorem dX11_right_41 : decode cX11_right 41 = .ok (.getfield 232, 3) := by decide +kernel
theorem dX11_right_44 : decode cX11_right 44 = .ok (.iload 4, 2) := by decide +kernel
theorem dX11_right_46 : decode cX11_right 46 = .ok (.iaload, 1) := by decide +kernel
theorem dX11_right_47 : decode cX11_right 47 = .ok (.aload_n 0, 1) := by decide +kernel
theorem dX11_right_48 : decode cX11_right 48 = .ok (.getfield 28, 3) := by decide +kernel
theorem dX11_right_51 : decode cX11_right 51 = .ok (.getfield 235, 3) := by decide +kernel
theorem dX11_right_54 : decode cX11_right 54 = .ok (.iload 4, 2) := by decide +kernel
theorem dX11_right_56 : decode cX11_right 56 = .ok (.iaload, 1) := by decide +kernel
theorem dX11_right_57 : decode cX11_right 57 = .ok (.iload_n 2, 1) := by decide +kernel
theorem dX11_right_58 : decode cX11_right 58 = .ok (.invokevirtual 238, 3) := by decide +kernel
theorem dX11_right_61 : decode cX11_right 61 = .ok (.ifCond .eq 6, 3) := by decide +kernel
theorem dX11_right_64 : decode cX11_right 64 = .ok (.iinc 3 1, 3) := by decide +kernel
theorem dX11_right_67 : decode cX11_right 67 = .ok (.iinc 4 1, 3) := by decide +kernel
theorem dX11_right_70 : decode cX11_right 70 = .ok (.goto (-60), 3) := by decide +kernel
theorem dX11_right_73 : decode cX11_right 73 = .ok (.iload_n 3, 1) := by decide +kernel
theorem dX11_right_74 : decode cX11_right 74 = .ok (.ireturn, 1) := by decide +kernel
theorem dX11_forget_0 : decode cX11_forget 0 = .ok (.aload_n 0, 1) := by decide +kernel
theorem dX11_forget_1 : decode cX11_forget 1 = .ok (.iload_n 1, 1) := by decide +kernel
theorem dX11_forget_2 : decode cX11_forget 2 = .ok (.invokevirtual 167, 3) := by decide +kernel
theorem dX11_forget_5 : decode cX11_forget 5 = .ok (.aload_n 0, 1) := by decide +kernel
theorem dX11_forget_6 : decode cX11_forget 6 = .ok (.iload_n 1, 1) := by decide +kernel
theorem dX11_forget_7 : decode cX11_forget 7 = .ok (.invokevirtual 242, 3) := by decide +kernel
theorem dX11_forget_10 : decode cX11_forget 10 = .ok (.return_, 1) := by decide +kernel
theorem dX11_window_0 : decode cX11_window 0 = .ok (.iload_n 1, 1) := by decide +kernel
theorem dX11_window_1 : decode cX11_window 1 = .ok (.ifCond .lt 14, 3) := by decide +kernel
theorem dX11_window_4 : decode cX11_window 4 = .ok (.iload_n 2, 1) := by decide +kernel
theorem dX11_window_5 : decode cX11_window 5 = .ok (.iload_n 1, 1) := by decide +kernel
theorem dX11_window_6 : decode cX11_window 6 = .ok (.if_icmp .lt 9, 3) := by decide +kernel
theorem dX11_window_9 : decode cX11_window 9 = .ok (.iload_n 2, 1) := by decide +kernel
theorem dX11_window_10 : decode cX11_window 10 = .ok (.ldc 119, 2) := by decide +kernel
theorem dX11_window_12 : decode cX11_window 12 = .ok (.if_icmp .le 13, 3) := by decide +kernel
theorem dX11_window_15 : decode cX11_window 15 = .ok (.new 109, 3) := by decide +kernel
theorem dX11_window_18 : decode cX11_window 18 = .ok (.dup, 1) := by decide +kernel
theorem dX11_window_19 : decode cX11_window 19 = .ok (.ldc 162, 2) := by decide +kernel
theorem dX11_window_21 : decode cX11_window 21 = .ok (.invokespecial 113, 3) := by decide +kernel
theorem dX11_window_24 : decode cX11_window 24 = .ok (.athrow, 1) := by decide +kernel
theorem dX11_window_25 : decode cX11_window 25 = .ok (.aload_n 0, 1) := by decide +kernel
theorem dX11_window_26 : decode cX11_window 26 = .ok (.getfield 21, 3) := by decide +kernel
theorem dX11_window_29 : decode cX11_window 29 = .ok (.iload_n 1, 1) := by decide +kernel
theorem dX11_window_30 : decode cX11_window 30 = .ok (.putfield 245, 3) := by decide +kernel
theorem dX11_window_33 : decode cX11_window 33 = .ok (.aload_n 0, 1) := by decide +kernel
theorem dX11_window_34 : decode cX11_window 34 = .ok (.getfield 21, 3) := by decide +kernel
theorem dX11_window_37 : decode cX11_window 37 = .ok (.iload_n 2, 1) := by decide +kernel
theorem dX11_window_38 : decode cX11_window 38 = .ok (.putfield 248, 3) := by decide +kernel
theorem dX11_window_41 : decode cX11_window 41 = .ok (.return_, 1) := by decide +kernel
theorem dX11_count_0 : decode cX11_count 0 = .ok (.aload_n 0, 1) := by decide +kernel
theorem dX11_count_1 : decode cX11_count 1 = .ok (.iload_n 1, 1) := by decide +kernel
theorem dX11_count_2 : decode cX11_count 2 = .ok (.invokevirtual 170, 3) := by decide +kernel
theorem dX11_count_5 : decode cX11_count 5 = .ok (.iload_n 3, 1) := by decide +kernel
theorem dX11_count_6 : decode cX11_count 6 = .ok (.i2l, 1) := by decide +kernel
theorem dX11_count_7 : decode cX11_count 7 = .ok (.lconst 0, 1) := by decide +kernel
theorem dX11_count_8 : decode cX11_count 8 = .ok (.ldc2_w 173, 3) := by decide +kernel
theorem dX11_count_11 : decode cX11_count 11 = .ok (.invokestatic 131, 3) := by decide +kernel
theorem dX11_count_14 : decode cX11_count 14 = .ok (.ifCond .ne 13, 3) := by decide +kernel
theorem dX11_count_17 : decode cX11_count 17 = .ok (.new 109, 3) := by decide +kernel
theorem dX11_count_20 : decode cX11_count 20 = .ok (.dup, 1) := by decide +kernel
theorem dX11_count_21 : decode cX11_count 21 = .ok (.ldc 251, 2) := by decide +kernel
theorem dX11_count_23 : decode cX11_count 23 = .ok (.invokespecial 113, 3) := by decide +kernel
theorem dX11_count_26 : decode cX11_count 26 = .ok (.athrow, 1) := by decide +kernel
theorem dX11_count_27 : decode cX11_count 27 = .ok (.aload_n 0, 1) := by decide +kernel
theorem dX11_count_28 : decode cX11_count 28 = .ok (.getfield 50, 3) := by decide +kernel
theorem dX11_count_31 : decode cX11_count 31 = .ok (.aload_n 0, 1) := by decide +kernel
theorem dX11_count_32 : decode cX11_count 32 = .ok (.iload 4, 2) := by decide +kernel
theorem dX11_count_34 : decode cX11_count 34 = .ok (.invokevirtual 184, 3) := by decide +kernel
theorem dX11_count_37 : decode cX11_count 37 = .ok (.invokevirtual 253, 3) := by decide +kernel
theorem dX11_count_40 : decode cX11_count 40 = .ok (.aload_n 0, 1) := by decide +kernel
theorem dX11_count_41 : decode cX11_count 41 = .ok (.getfield 50, 3) := by decide +kernel
theorem dX11_count_44 : decode cX11_count 44 = .ok (.iload_n 1, 1) := by decide +kernel
theorem dX11_count_45 : decode cX11_count 45 = .ok (.iload_n 2, 1) := by decide +kernel
theorem dX11_count_46 : decode cX11_count 46 = .ok (.iload_n 3, 1) := by decide +kernel
theorem dX11_count_47 : decode cX11_count 47 = .ok (.invokevirtual 257, 3) := by decide +kernel
theorem dX11_count_50 : decode cX11_count 50 = .ok (.ireturn, 1) := by decide +kernel
theorem dX11_span_0 : decode cX11_span 0 = .ok (.aload_n 0, 1) := by decide +kernel
theorem dX11_span_1 : decode cX11_span 1 = .ok (.iload_n 1, 1) := by decide +kernel
theorem dX11_span_2 : decode cX11_span 2 = .ok (.invokevirtual 170, 3) := by decide +kernel
theorem dX11_span_5 : decode cX11_span 5 = .ok (.iload_n 3, 1) := by decide +kernel
theorem dX11_span_6 : decode cX11_span 6 = .ok (.i2l, 1) := by decide +kernel
theorem dX11_span_7 : decode cX11_span 7 = .ok (.lconst 0, 1) := by decide +kernel
theorem dX11_span_8 : decode cX11_span 8 = .ok (.ldc2_w 261, 3) := by decide +kernel
theorem dX11_span_11 : decode cX11_span 11 = .ok (.invokestatic 131, 3) := by decide +kernel
theorem dX11_span_14 : decode cX11_span 14 = .ok (.ifCond .ne 13, 3) := by decide +kernel
theorem dX11_span_17 : decode cX11_span 17 = .ok (.new 109, 3) := by decide +kernel
theorem dX11_span_20 : decode cX11_span 20 = .ok (.dup, 1) := by decide +kernel
theorem dX11_span_21 : decode cX11_span 21 = .ok (.ldc 251, 2) := by decide +kernel
theorem dX11_span_23 : decode cX11_span 23 = .ok (.invokespecial 113, 3) := by decide +kernel
theorem dX11_span_26 : decode cX11_span 26 = .ok (.athrow, 1) := by decide +kernel
theorem dX11_span_27 : decode cX11_span 27 = .ok (.aload_n 0, 1) := by decide +kernel
theorem dX11_span_28 : decode cX11_span 28 = .ok (.getfield 50, 3) := by decide +kernel
theorem dX11_span_31 : decode cX11_span 31 = .ok (.aload_n 0, 1) := by decide +kernel
theorem dX11_span_32 : decode cX11_span 32 = .ok (.iload 4, 2) := by decide +kernel
theorem dX11_span_34 : decode cX11_span 34 = .ok (.invokevirtual 184, 3) := by decide +kernel
theorem dX11_span_37 : decode cX11_span 37 = .ok (.invokevirtual 253, 3) := by decide +kernel
theorem dX11_span_40 : decode cX11_span 40 = .ok (.aload_n 0, 1) := by decide +kernel
theorem dX11_span_41 : decode cX11_span 41 = .ok (.getfield 50, 3) := by decide +kernel
theorem dX11_span_44 : decode cX11_span 44 = .ok (.iload_n 1, 1) := by decide +kernel
theorem dX11_span_45 : decode cX11_span 45 = .ok (.iload_n 2, 1) := by decide +kernel
theorem dX11_span_46 : decode cX11_span 46 = .ok (.iload_n 3, 1) := by decide +kernel
theorem dX11_span_47 : decode cX11_span 47 = .ok (.invokevirtual 257, 3) := by decide +kernel
theorem dX11_span_50 : decode cX11_span 50 = .ok (.istore 6, 2) := by decide +kernel
theorem dX11_span_52 : decode cX11_span 52 = .ok (.aload_n 0, 1) := by decide +kernel
theorem dX11_span_53 : decode cX11_span 53 = .ok (.getfield 50, 3) := by decide +kernel
theorem dX11_span_56 : decode cX11_span 56 = .ok (.iload_n 1, 1) := by decide +kernel
theorem dX11_span_57 : decode cX11_span 57 = .ok (.iload_n 2, 1) := by decide +kernel
theorem dX11_span_58 : decode cX11_span 58 = .ok (.iconst 3, 1) := by decide +kernel
theorem dX11_span_59 : decode cX11_span 59 = .ok (.invokevirtual 257, 3) := by decide +kernel
theorem dX11_span_62 : decode cX11_span 62 = .ok (.iconst 2, 1) := by decide +kernel
theorem dX11_span_63 : decode cX11_span 63 = .ok (.iadd, 1) := by decide +kernel
theorem dX11_span_64 : decode cX11_span 64 = .ok (.istore 7, 2) := by decide +kernel
theorem dX11_span_66 : decode cX11_span 66 = .ok (.iload 5, 2) := by decide +kernel
theorem dX11_span_68 : decode cX11_span 68 = .ok (.ifCond .eq 24, 3) := by decide +kernel
theorem dX11_span_71 : decode cX11_span 71 = .ok (.sipush 1000, 3) := by decide +kernel
theorem dX11_span_74 : decode cX11_span 74 = .ok (.iload 6, 2) := by decide +kernel
theorem dX11_span_76 : decode cX11_span 76 = .ok (.iconst 2, 1) := by decide +kernel
theorem dX11_span_77 : decode cX11_span 77 = .ok (.iadd, 1) := by decide +kernel
theorem dX11_span_78 : decode cX11_span 78 = .ok (.imul, 1) := by decide +kernel
theorem dX11_span_79 : decode cX11_span 79 = .ok (.iload 7, 2) := by decide +kernel
theorem dX11_span_81 : decode cX11_span 81 = .ok (.iadd, 1) := by decide +kernel
theorem dX11_span_82 : decode cX11_span 82 = .ok (.iconst 1, 1) := by decide +kernel
theorem dX11_span_83 : decode cX11_span 83 = .ok (.isub, 1) := by decide +kernel
theorem dX11_span_84 : decode cX11_span 84 = .ok (.iload 7, 2) := by decide +kernel
theorem dX11_span_86 : decode cX11_span 86 = .ok (.invokestatic 263, 3) := by decide +kernel
theorem dX11_span_89 : decode cX11_span 89 = .ok (.goto 14, 3) := by decide +kernel
theorem dX11_span_92 : decode cX11_span 92 = .ok (.sipush 1000, 3) := by decide +kernel
theorem dX11_span_95 : decode cX11_span 95 = .ok (.iload 6, 2) := by decide +kernel
theorem dX11_span_97 : decode cX11_span 97 = .ok (.imul, 1) := by decide +kernel
theorem dX11_span_98 : decode cX11_span 98 = .ok (.iload 7, 2) := by decide +kernel
theorem dX11_span_100 : decode cX11_span 100 = .ok (.invokestatic 263, 3) := by decide +kernel
theorem dX11_span_103 : decode cX11_span 103 = .ok (.ireturn, 1) := by decide +kernel
theorem dX11_weight_0 : decode cX11_weight 0 = .ok (.aload_n 0, 1) := by decide +kernel
theorem dX11_weight_1 : decode cX11_weight 1 = .ok (.iload_n 1, 1) := by decide +kernel
theorem dX11_weight_2 : decode cX11_weight 2 = .ok (.invokevirtual 170, 3) := by decide +kernel
theorem dX11_weight_5 : decode cX11_weight 5 = .ok (.aload_n 0, 1) := by decide +kernel
theorem dX11_weight_6 : decode cX11_weight 6 = .ok (.iload_n 2, 1) := by decide +kernel
theorem dX11_weight_7 : decode cX11_weight 7 = .ok (.invokevirtual 170, 3) := by decide +kernel
theorem dX11_weight_10 : decode cX11_weight 10 = .ok (.iload_n 1, 1) := by decide +kernel
theorem dX11_weight_11 : decode cX11_weight 11 = .ok (.iload_n 2, 1) := by decide +kernel
theorem dX11_weight_12 : decode cX11_weight 12 = .ok (.if_icmp .ne 14, 3) := by decide +kernel
theorem dX11_weight_15 : decode cX11_weight 15 = .ok (.new 109, 3) := by decide +kernel
theorem dX11_weight_18 : decode cX11_weight 18 = .ok (.dup, 1) := by decide +kernel
theorem dX11_weight_19 : decode cX11_weight 19 = .ok (.ldc_w 266, 3) := by decide +kernel
theorem dX11_weight_22 : decode cX11_weight 22 = .ok (.invokespecial 113, 3) := by decide +kernel
theorem dX11_weight_25 : decode cX11_weight 25 = .ok (.athrow, 1) := by decide +kernel
theorem dX11_weight_26 : decode cX11_weight 26 = .ok (.aload_n 0, 1) := by decide +kernel
theorem dX11_weight_27 : decode cX11_weight 27 = .ok (.getfield 50, 3) := by decide +kernel
theorem dX11_weight_30 : decode cX11_weight 30 = .ok (.aload_n 0, 1) := by decide +kernel
theorem dX11_weight_31 : decode cX11_weight 31 = .ok (.iload_n 3, 1) := by decide +kernel
theorem dX11_weight_32 : decode cX11_weight 32 = .ok (.invokevirtual 184, 3) := by decide +kernel
theorem dX11_weight_35 : decode cX11_weight 35 = .ok (.invokevirtual 253, 3) := by decide +kernel
theorem dX11_weight_38 : decode cX11_weight 38 = .ok (.aload_n 0, 1) := by decide +kernel
theorem dX11_weight_39 : decode cX11_weight 39 = .ok (.getfield 50, 3) := by decide +kernel
theorem dX11_weight_42 : decode cX11_weight 42 = .ok (.iload_n 1, 1) := by decide +kernel
theorem dX11_weight_43 : decode cX11_weight 43 = .ok (.iload_n 2, 1) := by decide +kernel
theorem dX11_weight_44 : decode cX11_weight 44 = .ok (.invokevirtual 268, 3) := by decide +kernel
theorem dX11_weight_47 : decode cX11_weight 47 = .ok (.ireturn, 1) := by decide +kernel
theorem dX11_parent_0 : decode cX11_parent 0 = .ok (.aload_n 0, 1) := by decide +kernel
theorem dX11_parent_1 : decode cX11_parent 1 = .ok (.iload_n 1, 1) := by decide +kernel
theorem dX11_parent_2 : decode cX11_parent 2 = .ok (.invokevirtual 170, 3) := by decide +kernel
theorem dX11_parent_5 : decode cX11_parent 5 = .ok (.aload_n 0, 1) := by decide +kernel
theorem dX11_parent_6 : decode cX11_parent 6 = .ok (.getfield 50, 3) := by decide +kernel
theorem dX11_parent_9 : decode cX11_parent 9 = .ok (.aload_n 0, 1) := by decide +kernel
theorem dX11_parent_10 : decode cX11_parent 10 = .ok (.iload_n 2, 1) := by decide +kernel
theorem dX11_parent_11 : decode cX11_parent 11 = .ok (.invokevirtual 184, 3) := by decide +kernel
theorem dX11_parent_14 : decode cX11_parent 14 = .ok (.invokevirtual 253, 3) := by decide +kernel
theorem dX11_parent_17 : decode cX11_parent 17 = .ok (.aload_n 0, 1) := by decide +kernel
theorem dX11_parent_18 : decode cX11_parent 18 = .ok (.getfield 50, 3) := by decide +kernel
theorem dX11_parent_21 : decode cX11_parent 21 = .ok (.getfield 271, 3) := by decide +kernel
theorem dX11_parent_24 : decode cX11_parent 24 = .ok (.iload_n 1, 1) := by decide +kernel
theorem dX11_parent_25 : decode cX11_parent 25 = .ok (.iaload, 1) := by decide +kernel
theorem dX11_parent_26 : decode cX11_parent 26 = .ok (.ireturn, 1) := by decide +kernel
theorem dX11_worth_0 : decode cX11_worth 0 = .ok (.aload_n 0, 1) := by decide +kernel
theorem dX11_worth_1 : decode cX11_worth 1 = .ok (.iload_n 1, 1) := by decide +kernel
theorem dX11_worth_2 : decode cX11_worth 2 = .ok (.iload_n 2, 1) := by decide +kernel
theorem dX11_worth_3 : decode cX11_worth 3 = .ok (.invokevirtual 208, 3) := by decide +kernel
theorem dX11_worth_6 : decode cX11_worth 6 = .ok (.aload_n 0, 1) := by decide +kernel
theorem dX11_worth_7 : decode cX11_worth 7 = .ok (.iload_n 3, 1) := by decide +kernel
theorem dX11_worth_8 : decode cX11_worth 8 = .ok (.invokevirtual 184, 3) := by decide +kernel
theorem dX11_worth_11 : decode cX11_worth 11 = .ok (.astore 4, 2) := by decide +kernel
theorem dX11_worth_13 : decode cX11_worth 13 = .ok (.aload_n 0, 1) := by decide +kernel
theorem dX11_worth_14 : decode cX11_worth 14 = .ok (.getfield 50, 3) := by decide +kernel
theorem dX11_worth_17 : decode cX11_worth 17 = .ok (.aload 4, 2) := by decide +kernel
theorem dX11_worth_19 : decode cX11_worth 19 = .ok (.invokevirtual 253, 3) := by decide +kernel
theorem dX11_worth_22 : decode cX11_worth 22 = .ok (.aload_n 0, 1) := by decide +kernel
theorem dX11_worth_23 : decode cX11_worth 23 = .ok (.getfield 50, 3) := by decide +kernel
theorem dX11_worth_26 : decode cX11_worth 26 = .ok (.aload 4, 2) := by decide +kernel
theorem dX11_worth_28 : decode cX11_worth 28 = .ok (.iload_n 1, 1) := by decide +kernel
theorem dX11_worth_29 : decode cX11_worth 29 = .ok (.iload_n 2, 1) := by decide +kernel
theorem dX11_worth_30 : decode cX11_worth 30 = .ok (.invokevirtual 274, 3) := by decide +kernel
theorem dX11_worth_33 : decode cX11_worth 33 = .ok (.ireturn, 1) := by decide +kernel
theorem dX11_by_0 : decode cX11_by 0 = .ok (.aload_n 0, 1) := by decide +kernel
theorem dX11_by_1 : decode cX11_by 1 = .ok (.iload_n 1, 1) := by decide +kernel
theorem dX11_by_2 : decode cX11_by 2 = .ok (.invokevirtual 167, 3) := by decide +kernel
theorem dX11_by_5 : decode cX11_by 5 = .ok (.aload_n 0, 1) := by decide +kernel
theorem dX11_by_6 : decode cX11_by 6 = .ok (.iload_n 2, 1) := by decide +kernel
theorem dX11_by_7 : decode cX11_by 7 = .ok (.invokevirtual 167, 3) := by decide +kernel
theorem dX11_by_10 : decode cX11_by 10 = .ok (.aload_n 0, 1) := by decide +kernel
theorem dX11_by_11 : decode cX11_by 11 = .ok (.iload_n 3, 1) := by decide +kernel
theorem dX11_by_12 : decode cX11_by 12 = .ok (.invokevirtual 170, 3) := by decide +kernel
theorem dX11_by_15 : decode cX11_by 15 = .ok (.iload_n 1, 1) := by decide +kernel
theorem dX11_by_16 : decode cX11_by 16 = .ok (.iload_n 2, 1) := by decide +kernel
theorem dX11_by_17 : decode cX11_by 17 = .ok (.if_icmp .ne 14, 3) := by decide +kernel
theorem dX11_by_20 : decode cX11_by 20 = .ok (.new 109, 3) := by decide +kernel
theorem dX11_by_23 : decode cX11_by 23 = .ok (.dup, 1) := by decide +kernel
theorem dX11_by_24 : decode cX11_by 24 = .ok (.ldc_w 278, 3) := by decide +kernel
theorem dX11_by_27 : decode cX11_by 27 = .ok (.invokespecial 113, 3) := by decide +kernel
theorem dX11_by_30 : decode cX11_by 30 = .ok (.athrow, 1) := by decide +kernel
theorem dX11_by_31 : decode cX11_by 31 = .ok (.aload_n 0, 1) := by decide +kernel
theorem dX11_by_32 : decode cX11_by 32 = .ok (.iload 4, 2) := by decide +kernel
theorem dX11_by_34 : decode cX11_by 34 = .ok (.invokevirtual 184, 3) := by decide +kernel
theorem dX11_by_37 : decode cX11_by 37 = .ok (.astore 5, 2) := by decide +kernel
theorem dX11_by_39 : decode cX11_by 39 = .ok (.aload_n 0, 1) := by decide +kernel
theorem dX11_by_40 : decode cX11_by 40 = .ok (.getfield 50, 3) := by decide +kernel
theorem dX11_by_43 : decode cX11_by 43 = .ok (.aload 5, 2) := by decide +kernel
theorem dX11_by_45 : decode cX11_by 45 = .ok (.invokevirtual 253, 3) := by decide +kernel
theorem dX11_by_48 : decode cX11_by 48 = .ok (.aload_n 0, 1) := by decide +kernel
theorem dX11_by_49 : decode cX11_by 49 = .ok (.getfield 50, 3) := by decide +kernel
theorem dX11_by_52 : decode cX11_by 52 = .ok (.aload 5, 2) := by decide +kernel
theorem dX11_by_54 : decode cX11_by 54 = .ok (.iload_n 1, 1) := by decide +kernel
theorem dX11_by_55 : decode cX11_by 55 = .ok (.iload_n 2, 1) := by decide +kernel
theorem dX11_by_56 : decode cX11_by 56 = .ok (.iload_n 3, 1) := by decide +kernel
theorem dX11_by_57 : decode cX11_by 57 = .ok (.invokevirtual 280, 3) := by decide +kernel
theorem dX11_by_60 : decode cX11_by 60 = .ok (.ireturn, 1) := by decide +kernel
theorem dX11_best_0 : decode cX11_best 0 = .ok (.aload_n 0, 1) := by decide +kernel
theorem dX11_best_1 : decode cX11_best 1 = .ok (.lload_n 1, 1) := by decide +kernel
theorem dX11_best_2 : decode cX11_best 2 = .ok (.iconst 2, 1) := by decide +kernel
theorem dX11_best_3 : decode cX11_best 3 = .ok (.bipush 9, 2) := by decide +kernel
theorem dX11_best_5 : decode cX11_best 5 = .ok (.invokevirtual 284, 3) := by decide +kernel
theorem dX11_best_8 : decode cX11_best 8 = .ok (.aload_n 0, 1) := by decide +kernel
theorem dX11_best_9 : decode cX11_best 9 = .ok (.lload_n 1, 1) := by decide +kernel
theorem dX11_best_10 : decode cX11_best 10 = .ok (.iload_n 3, 1) := by decide +kernel
theorem dX11_best_11 : decode cX11_best 11 = .ok (.invokevirtual 288, 3) := by decide +kernel
theorem dX11_best_14 : decode cX11_best 14 = .ok (.aload_n 0, 1) := by decide +kernel
theorem dX11_best_15 : decode cX11_best 15 = .ok (.getfield 57, 3) := by decide +kernel
theorem dX11_best_18 : decode cX11_best 18 = .ok (.getfield 292, 3) := by decide +kernel
theorem dX11_best_21 : decode cX11_best 21 = .ok (.ireturn, 1) := by decide +kernel
theorem dX11_part_0 : decode cX11_part 0 = .ok (.aload_n 0, 1) := by decide +kernel
theorem dX11_part_1 : decode cX11_part 1 = .ok (.lload_n 1, 1) := by decide +kernel
theorem dX11_part_2 : decode cX11_part 2 = .ok (.iconst 2, 1) := by decide +kernel
theorem dX11_part_3 : decode cX11_part 3 = .ok (.bipush 9, 2) := by decide +kernel
theorem dX11_part_5 : decode cX11_part 5 = .ok (.invokevirtual 284, 3) := by decide +kernel
theorem dX11_part_8 : decode cX11_part 8 = .ok (.aload_n 0, 1) := by decide +kernel
theorem dX11_part_9 : decode cX11_part 9 = .ok (.lload_n 1, 1) := by decide +kernel
theorem dX11_part_10 : decode cX11_part 10 = .ok (.iload_n 3, 1) := by decide +kernel
theorem dX11_part_11 : decode cX11_part 11 = .ok (.invokevirtual 288, 3) := by decide +kernel
theorem dX11_part_14 : decode cX11_part 14 = .ok (.aload_n 0, 1) := by decide +kernel
theorem dX11_part_15 : decode cX11_part 15 = .ok (.getfield 57, 3) := by decide +kernel
theorem dX11_part_18 : decode cX11_part 18 = .ok (.iload 4, 2) := by decide +kernel
theorem dX11_part_20 : decode cX11_part 20 = .ok (.invokevirtual 295, 3) := by decide +kernel
theorem dX11_part_23 : decode cX11_part 23 = .ok (.istore 5, 2) := by decide +kernel
theorem dX11_part_25 : decode cX11_part 25 = .ok (.iload 5, 2) := by decide +kernel
theorem dX11_part_27 : decode cX11_part 27 = .ok (.iconst (-1), 1) := by decide +kernel
theorem dX11_part_28 : decode cX11_part 28 = .ok (.if_icmp .ne 7, 3) := by decide +kernel
theorem dX11_part_31 : decode cX11_part 31 = .ok (.iconst (-1), 1) := by decide +kernel
theorem dX11_part_32 : decode cX11_part 32 = .ok (.goto 13, 3) := by decide +kernel
theorem dX11_part_35 : decode cX11_part 35 = .ok (.aload_n 0, 1) := by decide +kernel
theorem dX11_part_36 : decode cX11_part 36 = .ok (.getfield 57, 3) := by decide +kernel
theorem dX11_part_39 : decode cX11_part 39 = .ok (.getfield 298, 3) := by decide +kernel
theorem dX11_part_42 : decode cX11_part 42 = .ok (.iload 5, 2) := by decide +kernel
theorem dX11_part_44 : decode cX11_part 44 = .ok (.iaload, 1) := by decide +kernel
theorem dX11_part_45 : decode cX11_part 45 = .ok (.ireturn, 1) := by decide +kernel
theorem dX11_near_0 : decode cX11_near 0 = .ok (.aload_n 0, 1) := by decide +kernel
theorem dX11_near_1 : decode cX11_near 1 = .ok (.lload_n 1, 1) := by decide +kernel
theorem dX11_near_2 : decode cX11_near 2 = .ok (.iconst 2, 1) := by decide +kernel
theorem dX11_near_3 : decode cX11_near 3 = .ok (.bipush 9, 2) := by decide +kernel
theorem dX11_near_5 : decode cX11_near 5 = .ok (.invokevirtual 284, 3) := by decide +kernel
theorem dX11_near_8 : decode cX11_near 8 = .ok (.aload_n 0, 1) := by decide +kernel
theorem dX11_near_9 : decode cX11_near 9 = .ok (.iload 4, 2) := by decide +kernel
theorem dX11_near_11 : decode cX11_near 11 = .ok (.invokevirtual 301, 3) := by decide +kernel
theorem dX11_near_14 : decode cX11_near 14 = .ok (.aload_n 0, 1) := by decide +kernel
theorem dX11_near_15 : decode cX11_near 15 = .ok (.lload_n 1, 1) := by decide +kernel
theorem dX11_near_16 : decode cX11_near 16 = .ok (.iload_n 3, 1) := by decide +kernel
theorem dX11_near_17 : decode cX11_near 17 = .ok (.invokevirtual 288, 3) := by decide +kernel
theorem dX11_near_20 : decode cX11_near 20 = .ok (.aload_n 0, 1) := by decide +kernel
theorem dX11_near_21 : decode cX11_near 21 = .ok (.getfield 57, 3) := by decide +kernel
theorem dX11_near_24 : decode cX11_near 24 = .ok (.iload 4, 2) := by decide +kernel
theorem dX11_near_26 : decode cX11_near 26 = .ok (.invokevirtual 304, 3) := by decide +kernel
theorem dX11_near_29 : decode cX11_near 29 = .ok (.aload_n 0, 1) := by decide +kernel
theorem dX11_near_30 : decode cX11_near 30 = .ok (.getfield 57, 3) := by decide +kernel
theorem dX11_near_33 : decode cX11_near 33 = .ok (.getfield 307, 3) := by decide +kernel
theorem dX11_near_36 : decode cX11_near 36 = .ok (.sipush 20000, 3) := by decide +kernel
theorem dX11_near_39 : decode cX11_near 39 = .ok (.if_icmp .le 8, 3) := by decide +kernel
theorem dX11_near_42 : decode cX11_near 42 = .ok (.bipush (-3), 2) := by decide +kernel
theorem dX11_near_44 : decode cX11_near 44 = .ok (.goto 10, 3) := by decide +kernel
theorem dX11_near_47 : decode cX11_near 47 = .ok (.aload_n 0, 1) := by decide +kernel
theorem dX11_near_48 : decode cX11_near 48 = .ok (.getfield 57, 3) := by decide +kernel
theorem dX11_near_51 : decode cX11_near 51 = .ok (.getfield 307, 3) := by decide +kernel
theorem dX11_near_54 : decode cX11_near 54 = .ok (.ireturn, 1) := by decide +kernel
theorem dX11_sure_0 : decode cX11_sure 0 = .ok (.aload_n 0, 1) := by decide +kernel
theorem dX11_sure_1 : decode cX11_sure 1 = .ok (.lload_n 1, 1) := by decide +kernel
theorem dX11_sure_2 : decode cX11_sure 2 = .ok (.iconst 2, 1) := by decide +kernel
theorem dX11_sure_3 : decode cX11_sure 3 = .ok (.bipush 9, 2) := by decide +kernel
theorem dX11_sure_5 : decode cX11_sure 5 = .ok (.invokevirtual 284, 3) := by decide +kernel
theorem dX11_sure_8 : decode cX11_sure 8 = .ok (.aload_n 0, 1) := by decide +kernel
theorem dX11_sure_9 : decode cX11_sure 9 = .ok (.iload 4, 2) := by decide +kernel
theorem dX11_sure_11 : decode cX11_sure 11 = .ok (.invokevirtual 301, 3) := by decide +kernel
theorem dX11_sure_14 : decode cX11_sure 14 = .ok (.iload 5, 2) := by decide +kernel
theorem dX11_sure_16 : decode cX11_sure 16 = .ok (.iload 6, 2) := by decide +kernel
theorem dX11_sure_18 : decode cX11_sure 18 = .ok (.if_icmp .eq 21, 3) := by decide +kernel
theorem dX11_sure_21 : decode cX11_sure 21 = .ok (.lload_n 1, 1) := by decide +kernel
theorem dX11_sure_22 : decode cX11_sure 22 = .ok (.iload 5, 2) := by decide +kernel
theorem dX11_sure_24 : decode cX11_sure 24 = .ok (.invokestatic 310, 3) := by decide +kernel
theorem dX11_sure_27 : decode cX11_sure 27 = .ok (.ifCond .eq 12, 3) := by decide +kernel
theorem dX11_sure_30 : decode cX11_sure 30 = .ok (.lload_n 1, 1) := by decide +kernel
theorem dX11_sure_31 : decode cX11_sure 31 = .ok (.iload 6, 2) := by decide +kernel
theorem dX11_sure_33 : decode cX11_sure 33 = .ok (.invokestatic 310, 3) := by decide +kernel
theorem dX11_sure_36 : decode cX11_sure 36 = .ok (.ifCond .ne 14, 3) := by decide +kernel
theorem dX11_sure_39 : decode cX11_sure 39 = .ok (.new 109, 3) := by decide +kernel
theorem dX11_sure_42 : decode cX11_sure 42 = .ok (.dup, 1) := by decide +kernel
theorem dX11_sure_43 : decode cX11_sure 43 = .ok (.ldc_w 313, 3) := by decide +kernel
theorem dX11_sure_46 : decode cX11_sure 46 = .ok (.invokespecial 113, 3) := by decide +kernel
theorem dX11_sure_49 : decode cX11_sure 49 = .ok (.athrow, 1) := by decide +kernel
theorem dX11_sure_50 : decode cX11_sure 50 = .ok (.aload_n 0, 1) := by decide +kernel
theorem dX11_sure_51 : decode cX11_sure 51 = .ok (.lload_n 1, 1) := by decide +kernel
theorem dX11_sure_52 : decode cX11_sure 52 = .ok (.iload_n 3, 1) := by decide +kernel
theorem dX11_sure_53 : decode cX11_sure 53 = .ok (.invokevirtual 288, 3) := by decide +kernel
theorem dX11_sure_56 : decode cX11_sure 56 = .ok (.aload_n 0, 1) := by decide +kernel
theorem dX11_sure_57 : decode cX11_sure 57 = .ok (.getfield 57, 3) := by decide +kernel
theorem dX11_sure_60 : decode cX11_sure 60 = .ok (.iload 4, 2) := by decide +kernel
theorem dX11_sure_62 : decode cX11_sure 62 = .ok (.invokevirtual 304, 3) := by decide +kernel
theorem dX11_sure_65 : decode cX11_sure 65 = .ok (.aload_n 0, 1) := by decide +kernel
theorem dX11_sure_66 : decode cX11_sure 66 = .ok (.getfield 57, 3) := by decide +kernel
theorem dX11_sure_69 : decode cX11_sure 69 = .ok (.getfield 307, 3) := by decide +kernel
theorem dX11_sure_72 : decode cX11_sure 72 = .ok (.sipush 20000, 3) := by decide +kernel
theorem dX11_sure_75 : decode cX11_sure 75 = .ok (.if_icmp .le 6, 3) := by decide +kernel
theorem dX11_sure_78 : decode cX11_sure 78 = .ok (.bipush (-3), 2) := by decide +kernel
theorem dX11_sure_80 : decode cX11_sure 80 = .ok (.ireturn, 1) := by decide +kernel
theorem dX11_sure_81 : decode cX11_sure 81 = .ok (.aload_n 0, 1) := by decide +kernel
theorem dX11_sure_82 : decode cX11_sure 82 = .ok (.getfield 57, 3) := by decide +kernel
theorem dX11_sure_85 : decode cX11_sure 85 = .ok (.aload_n 0, 1) := by decide +kernel
theorem dX11_sure_86 : decode cX11_sure 86 = .ok (.getfield 57, 3) := by decide +kernel
theorem dX11_sure_89 : decode cX11_sure 89 = .ok (.iload 5, 2) := by decide +kernel
theorem dX11_sure_91 : decode cX11_sure 91 = .ok (.invokevirtual 295, 3) := by decide +kernel
theorem dX11_sure_94 : decode cX11_sure 94 = .ok (.aload_n 0, 1) := by decide +kernel
theorem dX11_sure_95 : decode cX11_sure 95 = .ok (.getfield 57, 3) := by decide +kernel
theorem dX11_sure_98 : decode cX11_sure 98 = .ok (.iload 6, 2) := by decide +kernel
theorem dX11_sure_100 : decode cX11_sure 100 = .ok (.invokevirtual 295, 3) := by decide +kernel
theorem dX11_sure_103 : decode cX11_sure 103 = .ok (.invokevirtual 315, 3) := by decide +kernel
theorem dX11_sure_106 : decode cX11_sure 106 = .ok (.ireturn, 1) := by decide +kernel
theorem dX11_joined_0 : decode cX11_joined 0 = .ok (.aload_n 0, 1) := by decide +kernel
theorem dX11_joined_1 : decode cX11_joined 1 = .ok (.iload_n 1, 1) := by decide +kernel
theorem dX11_joined_2 : decode cX11_joined 2 = .ok (.invokevirtual 167, 3) := by decide +kernel
theorem dX11_joined_5 : decode cX11_joined 5 = .ok (.aload_n 0, 1) := by decide +kernel
theorem dX11_joined_6 : decode cX11_joined 6 = .ok (.iload_n 1, 1) := by decide +kernel
theorem dX11_joined_7 : decode cX11_joined 7 = .ok (.invokevirtual 318, 3) := by decide +kernel
theorem dX11_joined_10 : decode cX11_joined 10 = .ok (.aload_n 0, 1) := by decide +kernel
theorem dX11_joined_11 : decode cX11_joined 11 = .ok (.iload_n 2, 1) := by decide +kernel
theorem dX11_joined_12 : decode cX11_joined 12 = .ok (.invokevirtual 321, 3) := by decide +kernel
theorem dX11_joined_15 : decode cX11_joined 15 = .ok (.aload_n 0, 1) := by decide +kernel
theorem dX11_joined_16 : decode cX11_joined 16 = .ok (.getfield 64, 3) := by decide +kernel
theorem dX11_joined_19 : decode cX11_joined 19 = .ok (.iload_n 1, 1) := by decide +kernel
theorem dX11_joined_20 : decode cX11_joined 20 = .ok (.invokevirtual 325, 3) := by decide +kernel
theorem dX11_joined_23 : decode cX11_joined 23 = .ok (.ireturn, 1) := by decide +kernel
theorem dX11_bound_0 : decode cX11_bound 0 = .ok (.aload_n 0, 1) := by decide +kernel
theorem dX11_bound_1 : decode cX11_bound 1 = .ok (.iload_n 1, 1) := by decide +kernel
theorem dX11_bound_2 : decode cX11_bound 2 = .ok (.invokevirtual 184, 3) := by decide +kernel
theorem dX11_bound_5 : decode cX11_bound 5 = .ok (.astore_n 2, 1) := by decide +kernel
theorem dX11_bound_6 : decode cX11_bound 6 = .ok (.aload_n 0, 1) := by decide +kernel
theorem dX11_bound_7 : decode cX11_bound 7 = .ok (.getfield 50, 3) := by decide +kernel
theorem dX11_bound_10 : decode cX11_bound 10 = .ok (.aload_n 2, 1) := by decide +kernel
theorem dX11_bound_11 : decode cX11_bound 11 = .ok (.invokevirtual 253, 3) := by decide +kernel
theorem dX11_bound_14 : decode cX11_bound 14 = .ok (.aload_n 0, 1) := by decide +kernel
theorem dX11_bound_15 : decode cX11_bound 15 = .ok (.getfield 21, 3) := by decide +kernel
theorem dX11_bound_18 : decode cX11_bound 18 = .ok (.invokevirtual 328, 3) := by decide +kernel
theorem dX11_bound_21 : decode cX11_bound 21 = .ok (.lstore_n 3, 1) := by decide +kernel
theorem dX11_bound_22 : decode cX11_bound 22 = .ok (.iconst 0, 1) := by decide +kernel
theorem dX11_bound_23 : decode cX11_bound 23 = .ok (.istore 5, 2) := by decide +kernel
theorem dX11_bound_25 : decode cX11_bound 25 = .ok (.iconst 0, 1) := by decide +kernel
theorem dX11_bound_26 : decode cX11_bound 26 = .ok (.istore 6, 2) := by decide +kernel
theorem dX11_bound_28 : decode cX11_bound 28 = .ok (.iload 6, 2) := by decide +kernel
theorem dX11_bound_30 : decode cX11_bound 30 = .ok (.aload_n 0, 1) := by decide +kernel
theorem dX11_bound_31 : decode cX11_bound 31 = .ok (.getfield 21, 3) := by decide +kernel
theorem dX11_bound_34 : decode cX11_bound 34 = .ok (.getfield 332, 3) := by decide +kernel
theorem dX11_bound_37 : decode cX11_bound 37 = .ok (.if_icmp .ge 100, 3) := by decide +kernel
theorem dX11_bound_40 : decode cX11_bound 40 = .ok (.lload_n 3, 1) := by decide +kernel
theorem dX11_bound_41 : decode cX11_bound 41 = .ok (.iload 6, 2) := by decide +kernel
theorem dX11_bound_43 : decode cX11_bound 43 = .ok (.invokestatic 192, 3) := by decide +kernel
theorem dX11_bound_46 : decode cX11_bound 46 = .ok (.ifCond .eq 27, 3) := by decide +kernel
theorem dX11_bound_49 : decode cX11_bound 49 = .ok (.lload_n 3, 1) := by decide +kernel
theorem dX11_bound_50 : decode cX11_bound 50 = .ok (.iload 6, 2) := by decide +kernel
theorem dX11_bound_52 : decode cX11_bound 52 = .ok (.invokestatic 333, 3) := by decide +kernel
theorem dX11_bound_55 : decode cX11_bound 55 = .ok (.land, 1) := by decide +kernel
theorem dX11_bound_56 : decode cX11_bound 56 = .ok (.aload_n 0, 1) := by decide +kernel
theorem dX11_bound_57 : decode cX11_bound 57 = .ok (.getfield 21, 3) := by decide +kernel
theorem dX11_bound_60 : decode cX11_bound 60 = .ok (.iload 6, 2) := by decide +kernel
theorem dX11_bound_62 : decode cX11_bound 62 = .ok (.invokevirtual 219, 3) := by decide +kernel
theorem dX11_bound_65 : decode cX11_bound 65 = .ok (.ldc2_w 200, 3) := by decide +kernel
theorem dX11_bound_68 : decode cX11_bound 68 = .ok (.lxor, 1) := by decide +kernel
theorem dX11_bound_69 : decode cX11_bound 69 = .ok (.land, 1) := by decide +kernel
theorem dX11_bound_70 : decode cX11_bound 70 = .ok (.goto 4, 3) := by decide +kernel
theorem dX11_bound_73 : decode cX11_bound 73 = .ok (.lconst 0, 1) := by decide +kernel
theorem dX11_bound_74 : decode cX11_bound 74 = .ok (.lstore 7, 2) := by decide +kernel
theorem dX11_bound_76 : decode cX11_bound 76 = .ok (.iload 6, 2) := by decide +kernel
theorem dX11_bound_78 : decode cX11_bound 78 = .ok (.iconst 1, 1) := by decide +kernel
theorem dX11_bound_79 : decode cX11_bound 79 = .ok (.iadd, 1) := by decide +kernel
theorem dX11_bound_80 : decode cX11_bound 80 = .ok (.istore 9, 2) := by decide +kernel
theorem dX11_bound_82 : decode cX11_bound 82 = .ok (.iload 9, 2) := by decide +kernel
theorem dX11_bound_84 : decode cX11_bound 84 = .ok (.aload_n 0, 1) := by decide +kernel
theorem dX11_bound_85 : decode cX11_bound 85 = .ok (.getfield 21, 3) := by decide +kernel
theorem dX11_bound_88 : decode cX11_bound 88 = .ok (.getfield 332, 3) := by decide +kernel
theorem dX11_bound_91 : decode cX11_bound 91 = .ok (.if_icmp .ge 40, 3) := by decide +kernel
theorem dX11_bound_94 : decode cX11_bound 94 = .ok (.lload 7, 2) := by decide +kernel
theorem dX11_bound_96 : decode cX11_bound 96 = .ok (.iload 9, 2) := by decide +kernel
theorem dX11_bound_98 : decode cX11_bound 98 = .ok (.invokestatic 192, 3) := by decide +kernel
theorem dX11_bound_101 : decode cX11_bound 101 = .ok (.ifCond .eq 24, 3) := by decide +kernel
theorem dX11_bound_104 : decode cX11_bound 104 = .ok (.iload 5, 2) := by decide +kernel
theorem dX11_bound_106 : decode cX11_bound 106 = .ok (.iconst 0, 1) := by decide +kernel
theorem dX11_bound_107 : decode cX11_bound 107 = .ok (.aload_n 0, 1) := by decide +kernel
theorem dX11_bound_108 : decode cX11_bound 108 = .ok (.getfield 50, 3) := by decide +kernel
theorem dX11_bound_111 : decode cX11_bound 111 = .ok (.aload_n 2, 1) := by decide +kernel
theorem dX11_bound_112 : decode cX11_bound 112 = .ok (.iload 6, 2) := by decide +kernel
theorem dX11_bound_114 : decode cX11_bound 114 = .ok (.iload 9, 2) := by decide +kernel
theorem dX11_bound_116 : decode cX11_bound 116 = .ok (.invokevirtual 274, 3) := by decide +kernel
theorem dX11_bound_119 : decode cX11_bound 119 = .ok (.invokestatic 336, 3) := by decide +kernel
theorem dX11_bound_122 : decode cX11_bound 122 = .ok (.iadd, 1) := by decide +kernel
theorem dX11_bound_123 : decode cX11_bound 123 = .ok (.istore 5, 2) := by decide +kernel
theorem dX11_bound_125 : decode cX11_bound 125 = .ok (.iinc 9 1, 3) := by decide +kernel
theorem dX11_bound_128 : decode cX11_bound 128 = .ok (.goto (-46), 3) := by decide +kernel
theorem dX11_bound_131 : decode cX11_bound 131 = .ok (.iinc 6 1, 3) := by decide +kernel
theorem dX11_bound_134 : decode cX11_bound 134 = .ok (.goto (-106), 3) := by decide +kernel
theorem dX11_bound_137 : decode cX11_bound 137 = .ok (.iload 5, 2) := by decide +kernel
theorem dX11_bound_139 : decode cX11_bound 139 = .ok (.ireturn, 1) := by decide +kernel
theorem dX11_moves_0 : decode cX11_moves 0 = .ok (.aload_n 0, 1) := by decide +kernel
theorem dX11_moves_1 : decode cX11_moves 1 = .ok (.iload_n 1, 1) := by decide +kernel
theorem dX11_moves_2 : decode cX11_moves 2 = .ok (.invokevirtual 341, 3) := by decide +kernel
theorem dX11_moves_5 : decode cX11_moves 5 = .ok (.aload_n 0, 1) := by decide +kernel
theorem dX11_moves_6 : decode cX11_moves 6 = .ok (.iload_n 2, 1) := by decide +kernel
theorem dX11_moves_7 : decode cX11_moves 7 = .ok (.invokevirtual 341, 3) := by decide +kernel
theorem dX11_moves_10 : decode cX11_moves 10 = .ok (.aload_n 0, 1) := by decide +kernel
theorem dX11_moves_11 : decode cX11_moves 11 = .ok (.getfield 73, 3) := by decide +kernel
theorem dX11_moves_14 : decode cX11_moves 14 = .ok (.invokevirtual 344, 3) := by decide +kernel
theorem dX11_moves_17 : decode cX11_moves 17 = .ok (.aload_n 0, 1) := by decide +kernel
theorem dX11_moves_18 : decode cX11_moves 18 = .ok (.getfield 73, 3) := by decide +kernel
theorem dX11_moves_21 : decode cX11_moves 21 = .ok (.iload_n 1, 1) := by decide +kernel
theorem dX11_moves_22 : decode cX11_moves 22 = .ok (.iload_n 2, 1) := by decide +kernel
theorem dX11_moves_23 : decode cX11_moves 23 = .ok (.invokevirtual 347, 3) := by decide +kernel
theorem dX11_moves_26 : decode cX11_moves 26 = .ok (.ireturn, 1) := by decide +kernel
theorem dX11_changes_0 : decode cX11_changes 0 = .ok (.aload_n 0, 1) := by decide +kernel
theorem dX11_changes_1 : decode cX11_changes 1 = .ok (.iload_n 1, 1) := by decide +kernel
theorem dX11_changes_2 : decode cX11_changes 2 = .ok (.invokevirtual 170, 3) := by decide +kernel
theorem dX11_changes_5 : decode cX11_changes 5 = .ok (.iload_n 2, 1) := by decide +kernel
theorem dX11_changes_6 : decode cX11_changes 6 = .ok (.i2l, 1) := by decide +kernel
theorem dX11_changes_7 : decode cX11_changes 7 = .ok (.lconst 1, 1) := by decide +kernel
theorem dX11_changes_8 : decode cX11_changes 8 = .ok (.ldc2_w 261, 3) := by decide +kernel
theorem dX11_changes_11 : decode cX11_changes 11 = .ok (.invokestatic 131, 3) := by decide +kernel
theorem dX11_changes_14 : decode cX11_changes 14 = .ok (.ifCond .eq 15, 3) := by decide +kernel
theorem dX11_changes_17 : decode cX11_changes 17 = .ok (.iload_n 3, 1) := by decide +kernel
theorem dX11_changes_18 : decode cX11_changes 18 = .ok (.i2l, 1) := by decide +kernel
theorem dX11_changes_19 : decode cX11_changes 19 = .ok (.lconst 1, 1) := by decide +kernel
theorem dX11_changes_20 : decode cX11_changes 20 = .ok (.ldc2_w 261, 3) := by decide +kernel
theorem dX11_changes_23 : decode cX11_changes 23 = .ok (.invokestatic 131, 3) := by decide +kernel
theorem dX11_changes_26 : decode cX11_changes 26 = .ok (.ifCond .ne 14, 3) := by decide +kernel
theorem dX11_changes_29 : decode cX11_changes 29 = .ok (.new 109, 3) := by decide +kernel
theorem dX11_changes_32 : decode cX11_changes 32 = .ok (.dup, 1) := by decide +kernel
theorem dX11_changes_33 : decode cX11_changes 33 = .ok (.ldc_w 350, 3) := by decide +kernel
theorem dX11_changes_36 : decode cX11_changes 36 = .ok (.invokespecial 113, 3) := by decide +kernel
theorem dX11_changes_39 : decode cX11_changes 39 = .ok (.athrow, 1) := by decide +kernel
theorem dX11_changes_40 : decode cX11_changes 40 = .ok (.aload_n 0, 1) := by decide +kernel
theorem dX11_changes_41 : decode cX11_changes 41 = .ok (.getfield 73, 3) := by decide +kernel
theorem dX11_changes_44 : decode cX11_changes 44 = .ok (.invokevirtual 344, 3) := by decide +kernel
theorem dX11_changes_47 : decode cX11_changes 47 = .ok (.aload_n 0, 1) := by decide +kernel
theorem dX11_changes_48 : decode cX11_changes 48 = .ok (.getfield 73, 3) := by decide +kernel
theorem dX11_changes_51 : decode cX11_changes 51 = .ok (.aload_n 0, 1) := by decide +kernel
theorem dX11_changes_52 : decode cX11_changes 52 = .ok (.iload 4, 2) := by decide +kernel
theorem dX11_changes_54 : decode cX11_changes 54 = .ok (.invokevirtual 184, 3) := by decide +kernel
theorem dX11_changes_57 : decode cX11_changes 57 = .ok (.iload_n 1, 1) := by decide +kernel
theorem dX11_changes_58 : decode cX11_changes 58 = .ok (.iload_n 2, 1) := by decide +kernel
theorem dX11_changes_59 : decode cX11_changes 59 = .ok (.iload_n 3, 1) := by decide +kernel
theorem dX11_changes_60 : decode cX11_changes 60 = .ok (.invokevirtual 352, 3) := by decide +kernel
theorem dX11_changes_63 : decode cX11_changes 63 = .ok (.ireturn, 1) := by decide +kernel
theorem dX11_share_0 : decode cX11_share 0 = .ok (.aload_n 0, 1) := by decide +kernel
theorem dX11_share_1 : decode cX11_share 1 = .ok (.iload_n 1, 1) := by decide +kernel
theorem dX11_share_2 : decode cX11_share 2 = .ok (.invokevirtual 167, 3) := by decide +kernel
theorem dX11_share_5 : decode cX11_share 5 = .ok (.aload_n 0, 1) := by decide +kernel
theorem dX11_share_6 : decode cX11_share 6 = .ok (.iload_n 3, 1) := by decide +kernel
theorem dX11_share_7 : decode cX11_share 7 = .ok (.invokevirtual 146, 3) := by decide +kernel
theorem dX11_share_10 : decode cX11_share 10 = .ok (.aload_n 0, 1) := by decide +kernel
theorem dX11_share_11 : decode cX11_share 11 = .ok (.iload_n 2, 1) := by decide +kernel
theorem dX11_share_12 : decode cX11_share 12 = .ok (.invokevirtual 341, 3) := by decide +kernel
theorem dX11_share_15 : decode cX11_share 15 = .ok (.aload_n 0, 1) := by decide +kernel
theorem dX11_share_16 : decode cX11_share 16 = .ok (.getfield 73, 3) := by decide +kernel
theorem dX11_share_19 : decode cX11_share 19 = .ok (.iload_n 1, 1) := by decide +kernel
theorem dX11_share_20 : decode cX11_share 20 = .ok (.iload_n 2, 1) := by decide +kernel
theorem dX11_share_21 : decode cX11_share 21 = .ok (.invokevirtual 355, 3) := by decide +kernel
theorem dX11_share_24 : decode cX11_share 24 = .ok (.aload_n 0, 1) := by decide +kernel
theorem dX11_share_25 : decode cX11_share 25 = .ok (.getfield 73, 3) := by decide +kernel
theorem dX11_share_28 : decode cX11_share 28 = .ok (.getfield 358, 3) := by decide +kernel
theorem dX11_share_31 : decode cX11_share 31 = .ok (.iload_n 3, 1) := by decide +kernel
theorem dX11_share_32 : decode cX11_share 32 = .ok (.iaload, 1) := by decide +kernel
theorem dX11_share_33 : decode cX11_share 33 = .ok (.ireturn, 1) := by decide +kernel
theorem dX11_likely_0 : decode cX11_likely 0 = .ok (.aload_n 0, 1) := by decide +kernel
theorem dX11_likely_1 : decode cX11_likely 1 = .ok (.iload_n 1, 1) := by decide +kernel
theorem dX11_likely_2 : decode cX11_likely 2 = .ok (.iload_n 2, 1) := by decide +kernel
theorem dX11_likely_3 : decode cX11_likely 3 = .ok (.iload_n 3, 1) := by decide +kernel
theorem dX11_likely_4 : decode cX11_likely 4 = .ok (.invokevirtual 361, 3) := by decide +kernel
theorem dX11_likely_7 : decode cX11_likely 7 = .ok (.aload_n 0, 1) := by decide +kernel
theorem dX11_likely_8 : decode cX11_likely 8 = .ok (.getfield 73, 3) := by decide +kernel
theorem dX11_likely_11 : decode cX11_likely 11 = .ok (.iload_n 1, 1) := by decide +kernel
theorem dX11_likely_12 : decode cX11_likely 12 = .ok (.iload_n 2, 1) := by decide +kernel
theorem dX11_likely_13 : decode cX11_likely 13 = .ok (.invokevirtual 355, 3) := by decide +kernel
theorem dX11_likely_16 : decode cX11_likely 16 = .ok (.aload_n 0, 1) := by decide +kernel
theorem dX11_likely_17 : decode cX11_likely 17 = .ok (.getfield 73, 3) := by decide +kernel
theorem dX11_likely_20 : decode cX11_likely 20 = .ok (.iload_n 3, 1) := by decide +kernel
theorem dX11_likely_21 : decode cX11_likely 21 = .ok (.invokevirtual 364, 3) := by decide +kernel
theorem dX11_likely_24 : decode cX11_likely 24 = .ok (.ireturn, 1) := by decide +kernel
theorem dX11_keep_0 : decode cX11_keep 0 = .ok (.aload_n 0, 1) := by decide +kernel
theorem dX11_keep_1 : decode cX11_keep 1 = .ok (.iload_n 1, 1) := by decide +kernel
theorem dX11_keep_2 : decode cX11_keep 2 = .ok (.iload_n 2, 1) := by decide +kernel
theorem dX11_keep_3 : decode cX11_keep 3 = .ok (.iload_n 3, 1) := by decide +kernel
theorem dX11_keep_4 : decode cX11_keep 4 = .ok (.invokevirtual 361, 3) := by decide +kernel
theorem dX11_keep_7 : decode cX11_keep 7 = .ok (.aload_n 0, 1) := by decide +kernel
theorem dX11_keep_8 : decode cX11_keep 8 = .ok (.getfield 73, 3) := by decide +kernel
theorem dX11_keep_11 : decode cX11_keep 11 = .ok (.iload_n 1, 1) := by decide +kernel
theorem dX11_keep_12 : decode cX11_keep 12 = .ok (.iload_n 2, 1) := by decide +kernel
theorem dX11_keep_13 : decode cX11_keep 13 = .ok (.invokevirtual 355, 3) := by decide +kernel
theorem dX11_keep_16 : decode cX11_keep 16 = .ok (.aload_n 0, 1) := by decide +kernel
theorem dX11_keep_17 : decode cX11_keep 17 = .ok (.getfield 73, 3) := by decide +kernel
theorem dX11_keep_20 : decode cX11_keep 20 = .ok (.aload_n 0, 1) := by decide +kernel
theorem dX11_keep_21 : decode cX11_keep 21 = .ok (.getfield 73, 3) := by decide +kernel
theorem dX11_keep_24 : decode cX11_keep 24 = .ok (.iload_n 3, 1) := by decide +kernel
theorem dX11_keep_25 : decode cX11_keep 25 = .ok (.invokevirtual 364, 3) := by decide +kernel
theorem dX11_keep_28 : decode cX11_keep 28 = .ok (.invokevirtual 367, 3) := by decide +kernel
theorem dX11_keep_31 : decode cX11_keep 31 = .ok (.ireturn, 1) := by decide +kernel
theorem dX11_came_0 : decode cX11_came 0 = .ok (.iload_n 1, 1) := by decide +kernel
theorem dX11_came_1 : decode cX11_came 1 = .ok (.ifCond .lt 14, 3) := by decide +kernel
theorem dX11_came_4 : decode cX11_came 4 = .ok (.iload_n 1, 1) := by decide +kernel
theorem dX11_came_5 : decode cX11_came 5 = .ok (.aload_n 0, 1) := by decide +kernel
theorem dX11_came_6 : decode cX11_came 6 = .ok (.getfield 73, 3) := by decide +kernel
theorem dX11_came_9 : decode cX11_came 9 = .ok (.getfield 370, 3) := by decide +kernel
theorem dX11_came_12 : decode cX11_came 12 = .ok (.if_icmp .lt 14, 3) := by decide +kernel
theorem dX11_came_15 : decode cX11_came 15 = .ok (.new 373, 3) := by decide +kernel
theorem dX11_came_18 : decode cX11_came 18 = .ok (.dup, 1) := by decide +kernel
theorem dX11_came_19 : decode cX11_came 19 = .ok (.ldc_w 375, 3) := by decide +kernel
theorem dX11_came_22 : decode cX11_came 22 = .ok (.invokespecial 377, 3) := by decide +kernel
theorem dX11_came_25 : decode cX11_came 25 = .ok (.athrow, 1) := by decide +kernel
theorem dX11_came_26 : decode cX11_came 26 = .ok (.aload_n 0, 1) := by decide +kernel
theorem dX11_came_27 : decode cX11_came 27 = .ok (.iload_n 2, 1) := by decide +kernel
theorem dX11_came_28 : decode cX11_came 28 = .ok (.invokevirtual 167, 3) := by decide +kernel
theorem dX11_came_31 : decode cX11_came 31 = .ok (.aload_n 0, 1) := by decide +kernel
theorem dX11_came_32 : decode cX11_came 32 = .ok (.getfield 73, 3) := by decide +kernel
theorem dX11_came_35 : decode cX11_came 35 = .ok (.getfield 378, 3) := by decide +kernel
theorem dX11_came_38 : decode cX11_came 38 = .ok (.iload_n 1, 1) := by decide +kernel
theorem dX11_came_39 : decode cX11_came 39 = .ok (.iaload, 1) := by decide +kernel
theorem dX11_came_40 : decode cX11_came 40 = .ok (.ifCond .eq 14, 3) := by decide +kernel
theorem dX11_came_43 : decode cX11_came 43 = .ok (.new 120, 3) := by decide +kernel
theorem dX11_came_46 : decode cX11_came 46 = .ok (.dup, 1) := by decide +kernel
theorem dX11_came_47 : decode cX11_came 47 = .ok (.ldc_w 381, 3) := by decide +kernel
theorem dX11_came_50 : decode cX11_came 50 = .ok (.invokespecial 124, 3) := by decide +kernel
theorem dX11_came_53 : decode cX11_came 53 = .ok (.athrow, 1) := by decide +kernel
theorem dX11_came_54 : decode cX11_came 54 = .ok (.aload_n 0, 1) := by decide +kernel
theorem dX11_came_55 : decode cX11_came 55 = .ok (.getfield 73, 3) := by decide +kernel
theorem dX11_came_58 : decode cX11_came 58 = .ok (.iload_n 1, 1) := by decide +kernel
theorem dX11_came_59 : decode cX11_came 59 = .ok (.aload_n 0, 1) := by decide +kernel
theorem dX11_came_60 : decode cX11_came 60 = .ok (.getfield 21, 3) := by decide +kernel
theorem dX11_came_63 : decode cX11_came 63 = .ok (.getfield 383, 3) := by decide +kernel
theorem dX11_came_66 : decode cX11_came 66 = .ok (.iload_n 2, 1) := by decide +kernel
theorem dX11_came_67 : decode cX11_came 67 = .ok (.iaload, 1) := by decide +kernel
theorem dX11_came_68 : decode cX11_came 68 = .ok (.invokevirtual 386, 3) := by decide +kernel
theorem dX11_came_71 : decode cX11_came 71 = .ok (.ireturn, 1) := by decide +kernel
theorem dX11_record_0 : decode cX11_record 0 = .ok (.aload_n 0, 1) := by decide +kernel
theorem dX11_record_1 : decode cX11_record 1 = .ok (.getfield 73, 3) := by decide +kernel
theorem dX11_record_4 : decode cX11_record 4 = .ok (.iload_n 1, 1) := by decide +kernel
theorem dX11_record_5 : decode cX11_record 5 = .ok (.ifCond .eq 7, 3) := by decide +kernel
theorem dX11_record_8 : decode cX11_record 8 = .ok (.iconst 1, 1) := by decide +kernel
theorem dX11_record_9 : decode cX11_record 9 = .ok (.goto 4, 3) := by decide +kernel
theorem dX11_record_12 : decode cX11_record 12 = .ok (.iconst 2, 1) := by decide +kernel
theorem dX11_record_13 : decode cX11_record 13 = .ok (.invokevirtual 389, 3) := by decide +kernel
theorem dX11_record_16 : decode cX11_record 16 = .ok (.ireturn, 1) := by decide +kernel
theorem dX11_stopped_0 : decode cX11_stopped 0 = .ok (.aload_n 0, 1) := by decide +kernel
theorem dX11_stopped_1 : decode cX11_stopped 1 = .ok (.iload_n 1, 1) := by decide +kernel
theorem dX11_stopped_2 : decode cX11_stopped 2 = .ok (.invokevirtual 167, 3) := by decide +kernel
theorem dX11_stopped_5 : decode cX11_stopped 5 = .ok (.aload_n 0, 1) := by decide +kernel
theorem dX11_stopped_6 : decode cX11_stopped 6 = .ok (.iload_n 1, 1) := by decide +kernel
theorem dX11_stopped_7 : decode cX11_stopped 7 = .ok (.invokevirtual 318, 3) := by decide +kernel
theorem dX11_stopped_10 : decode cX11_stopped 10 = .ok (.aload_n 0, 1) := by decide +kernel
theorem dX11_stopped_11 : decode cX11_stopped 11 = .ok (.iload_n 2, 1) := by decide +kernel
theorem dX11_stopped_12 : decode cX11_stopped 12 = .ok (.invokevirtual 321, 3) := by decide +kernel
theorem dX11_stopped_15 : decode cX11_stopped 15 = .ok (.aload_n 0, 1) := by decide +kernel
theorem dX11_stopped_16 : decode cX11_stopped 16 = .ok (.getfield 73, 3) := by decide +kernel
theorem dX11_stopped_19 : decode cX11_stopped 19 = .ok (.invokevirtual 344, 3) := by decide +kernel
theorem dX11_stopped_22 : decode cX11_stopped 22 = .ok (.aload_n 0, 1) := by decide +kernel
theorem dX11_stopped_23 : decode cX11_stopped 23 = .ok (.getfield 21, 3) := by decide +kernel
theorem dX11_stopped_26 : decode cX11_stopped 26 = .ok (.aload_n 0, 1) := by decide +kernel
theorem dX11_stopped_27 : decode cX11_stopped 27 = .ok (.getfield 64, 3) := by decide +kernel
theorem dX11_stopped_30 : decode cX11_stopped 30 = .ok (.getfield 392, 3) := by decide +kernel
theorem dX11_stopped_33 : decode cX11_stopped 33 = .ok (.aload_n 0, 1) := by decide +kernel
theorem dX11_stopped_34 : decode cX11_stopped 34 = .ok (.getfield 64, 3) := by decide +kernel
theorem dX11_stopped_37 : decode cX11_stopped 37 = .ok (.iload_n 1, 1) := by decide +kernel
theorem dX11_stopped_38 : decode cX11_stopped 38 = .ok (.invokevirtual 325, 3) := by decide +kernel
theorem dX11_stopped_41 : decode cX11_stopped 41 = .ok (.laload, 1) := by decide +kernel
theorem dX11_stopped_42 : decode cX11_stopped 42 = .ok (.invokevirtual 396, 3) := by decide +kernel
theorem dX11_stopped_45 : decode cX11_stopped 45 = .ok (.istore_n 3, 1) := by decide +kernel
theorem dX11_stopped_46 : decode cX11_stopped 46 = .ok (.aload_n 0, 1) := by decide +kernel
theorem dX11_stopped_47 : decode cX11_stopped 47 = .ok (.getfield 73, 3) := by decide +kernel
theorem dX11_stopped_50 : decode cX11_stopped 50 = .ok (.getfield 400, 3) := by decide +kernel
theorem dX11_stopped_53 : decode cX11_stopped 53 = .ok (.ifCond .le 26, 3) := by decide +kernel
theorem dX11_stopped_56 : decode cX11_stopped 56 = .ok (.aload_n 0, 1) := by decide +kernel
theorem dX11_stopped_57 : decode cX11_stopped 57 = .ok (.getfield 10, 3) := by decide +kernel
theorem dX11_stopped_60 : decode cX11_stopped 60 = .ok (.getfield 116, 3) := by decide +kernel
theorem dX11_stopped_63 : decode cX11_stopped 63 = .ok (.iload_n 3, 1) := by decide +kernel
theorem dX11_stopped_64 : decode cX11_stopped 64 = .ok (.isub, 1) := by decide +kernel
theorem dX11_stopped_65 : decode cX11_stopped 65 = .ok (.aload_n 0, 1) := by decide +kernel
theorem dX11_stopped_66 : decode cX11_stopped 66 = .ok (.getfield 73, 3) := by decide +kernel
theorem dX11_stopped_69 : decode cX11_stopped 69 = .ok (.invokevirtual 403, 3) := by decide +kernel
theorem dX11_stopped_72 : decode cX11_stopped 72 = .ok (.if_icmp .le 7, 3) := by decide +kernel
theorem dX11_stopped_75 : decode cX11_stopped 75 = .ok (.iconst 1, 1) := by decide +kernel
theorem dX11_stopped_76 : decode cX11_stopped 76 = .ok (.goto 4, 3) := by decide +kernel
theorem dX11_stopped_79 : decode cX11_stopped 79 = .ok (.iconst 0, 1) := by decide +kernel
theorem dX11_stopped_80 : decode cX11_stopped 80 = .ok (.ireturn, 1) := by decide +kernel
theorem dX11_guess_0 : decode cX11_guess 0 = .ok (.aload_n 0, 1) := by decide +kernel
theorem dX11_guess_1 : decode cX11_guess 1 = .ok (.lload_n 1, 1) := by decide +kernel
theorem dX11_guess_2 : decode cX11_guess 2 = .ok (.iconst 1, 1) := by decide +kernel
theorem dX11_guess_3 : decode cX11_guess 3 = .ok (.bipush 60, 2) := by decide +kernel
theorem dX11_guess_5 : decode cX11_guess 5 = .ok (.invokevirtual 284, 3) := by decide +kernel
theorem dX11_guess_8 : decode cX11_guess 8 = .ok (.aload_n 0, 1) := by decide +kernel
theorem dX11_guess_9 : decode cX11_guess 9 = .ok (.getfield 73, 3) := by decide +kernel
theorem dX11_guess_12 : decode cX11_guess 12 = .ok (.lload_n 1, 1) := by decide +kernel
theorem dX11_guess_13 : decode cX11_guess 13 = .ok (.invokevirtual 406, 3) := by decide +kernel
theorem dX11_guess_16 : decode cX11_guess 16 = .ok (.ireturn, 1) := by decide +kernel
theorem dX11_homes_0 : decode cX11_homes 0 = .ok (.iload_n 1, 1) := by decide +kernel
theorem dX11_homes_1 : decode cX11_homes 1 = .ok (.i2l, 1) := by decide +kernel
theorem dX11_homes_2 : decode cX11_homes 2 = .ok (.lconst 0, 1) := by decide +kernel
theorem dX11_homes_3 : decode cX11_homes 3 = .ok (.ldc2_w 409, 3) := by decide +kernel
theorem dX11_homes_6 : decode cX11_homes 6 = .ok (.invokestatic 131, 3) := by decide +kernel
theorem dX11_homes_9 : decode cX11_homes 9 = .ok (.ifCond .ne 14, 3) := by decide +kernel
theorem dX11_homes_12 : decode cX11_homes 12 = .ok (.new 109, 3) := by decide +kernel
theorem dX11_homes_15 : decode cX11_homes 15 = .ok (.dup, 1) := by decide +kernel
theorem dX11_homes_16 : decode cX11_homes 16 = .ok (.ldc_w 411, 3) := by decide +kernel
theorem dX11_homes_19 : decode cX11_homes 19 = .ok (.invokespecial 113, 3) := by decide +kernel
theorem dX11_homes_22 : decode cX11_homes 22 = .ok (.athrow, 1) := by decide +kernel
theorem dX11_homes_23 : decode cX11_homes 23 = .ok (.aload_n 0, 1) := by decide +kernel
theorem dX11_homes_24 : decode cX11_homes 24 = .ok (.getfield 21, 3) := by decide +kernel
theorem dX11_homes_27 : decode cX11_homes 27 = .ok (.invokevirtual 328, 3) := by decide +kernel
theorem dX11_homes_30 : decode cX11_homes 30 = .ok (.lstore_n 3, 1) := by decide +kernel
theorem dX11_homes_31 : decode cX11_homes 31 = .ok (.iconst 0, 1) := by decide +kernel
theorem dX11_homes_32 : decode cX11_homes 32 = .ok (.istore 5, 2) := by decide +kernel
theorem dX11_homes_34 : decode cX11_homes 34 = .ok (.iconst 0, 1) := by decide +kernel
theorem dX11_homes_35 : decode cX11_homes 35 = .ok (.istore 6, 2) := by decide +kernel
theorem dX11_homes_37 : decode cX11_homes 37 = .ok (.iload 6, 2) := by decide +kernel
theorem dX11_homes_39 : decode cX11_homes 39 = .ok (.aload_n 0, 1) := by decide +kernel
theorem dX11_homes_40 : decode cX11_homes 40 = .ok (.getfield 10, 3) := by decide +kernel
theorem dX11_homes_43 : decode cX11_homes 43 = .ok (.getfield 413, 3) := by decide +kernel
theorem dX11_homes_46 : decode cX11_homes 46 = .ok (.if_icmp .ge 84, 3) := by decide +kernel
theorem dX11_homes_49 : decode cX11_homes 49 = .ok (.aload_n 0, 1) := by decide +kernel
theorem dX11_homes_50 : decode cX11_homes 50 = .ok (.getfield 21, 3) := by decide +kernel
theorem dX11_homes_53 : decode cX11_homes 53 = .ok (.getfield 416, 3) := by decide +kernel
theorem dX11_homes_56 : decode cX11_homes 56 = .ok (.iload 6, 2) := by decide +kernel
theorem dX11_homes_58 : decode cX11_homes 58 = .ok (.laload, 1) := by decide +kernel
theorem dX11_homes_59 : decode cX11_homes 59 = .ok (.lload_n 3, 1) := by decide +kernel
theorem dX11_homes_60 : decode cX11_homes 60 = .ok (.land, 1) := by decide +kernel
theorem dX11_homes_61 : decode cX11_homes 61 = .ok (.lstore 7, 2) := by decide +kernel
theorem dX11_homes_63 : decode cX11_homes 63 = .ok (.aload_n 0, 1) := by decide +kernel
theorem dX11_homes_64 : decode cX11_homes 64 = .ok (.getfield 10, 3) := by decide +kernel
theorem dX11_homes_67 : decode cX11_homes 67 = .ok (.getfield 419, 3) := by decide +kernel
theorem dX11_homes_70 : decode cX11_homes 70 = .ok (.iload 6, 2) := by decide +kernel
theorem dX11_homes_72 : decode cX11_homes 72 = .ok (.iaload, 1) := by decide +kernel
theorem dX11_homes_73 : decode cX11_homes 73 = .ok (.istore 9, 2) := by decide +kernel
theorem dX11_homes_75 : decode cX11_homes 75 = .ok (.iload 9, 2) := by decide +kernel
theorem dX11_homes_77 : decode cX11_homes 77 = .ok (.iconst (-1), 1) := by decide +kernel
theorem dX11_homes_78 : decode cX11_homes 78 = .ok (.if_icmp .eq 46, 3) := by decide +kernel
theorem dX11_homes_81 : decode cX11_homes 81 = .ok (.lload 7, 2) := by decide +kernel
theorem dX11_homes_83 : decode cX11_homes 83 = .ok (.invokestatic 422, 3) := by decide +kernel
theorem dX11_homes_86 : decode cX11_homes 86 = .ok (.iconst 2, 1) := by decide +kernel
theorem dX11_homes_87 : decode cX11_homes 87 = .ok (.if_icmp .lt 37, 3) := by decide +kernel
theorem dX11_homes_90 : decode cX11_homes 90 = .ok (.aload_n 0, 1) := by decide +kernel
theorem dX11_homes_91 : decode cX11_homes 91 = .ok (.getfield 10, 3) := by decide +kernel
theorem dX11_homes_94 : decode cX11_homes 94 = .ok (.aload_n 0, 1) := by decide +kernel
theorem dX11_homes_95 : decode cX11_homes 95 = .ok (.getfield 73, 3) := by decide +kernel
theorem dX11_homes_98 : decode cX11_homes 98 = .ok (.lload 7, 2) := by decide +kernel
theorem dX11_homes_100 : decode cX11_homes 100 = .ok (.invokevirtual 406, 3) := by decide +kernel
theorem dX11_homes_103 : decode cX11_homes 103 = .ok (.iload 9, 2) := by decide +kernel
theorem dX11_homes_105 : decode cX11_homes 105 = .ok (.invokevirtual 427, 3) := by decide +kernel
theorem dX11_homes_108 : decode cX11_homes 108 = .ok (.iload_n 1, 1) := by decide +kernel
theorem dX11_homes_109 : decode cX11_homes 109 = .ok (.if_icmp .gt 7, 3) := by decide +kernel
theorem dX11_homes_112 : decode cX11_homes 112 = .ok (.iconst 1, 1) := by decide +kernel
theorem dX11_homes_113 : decode cX11_homes 113 = .ok (.goto 4, 3) := by decide +kernel
theorem dX11_homes_116 : decode cX11_homes 116 = .ok (.iconst 0, 1) := by decide +kernel
theorem dX11_homes_117 : decode cX11_homes 117 = .ok (.iload_n 2, 1) := by decide +kernel
theorem dX11_homes_118 : decode cX11_homes 118 = .ok (.if_icmp .ne 6, 3) := by decide +kernel
theorem dX11_homes_121 : decode cX11_homes 121 = .ok (.iinc 5 1, 3) := by decide +kernel
theorem dX11_homes_124 : decode cX11_homes 124 = .ok (.iinc 6 1, 3) := by decide +kernel
theorem dX11_homes_127 : decode cX11_homes 127 = .ok (.goto (-90), 3) := by decide +kernel
theorem dX11_homes_130 : decode cX11_homes 130 = .ok (.iload 5, 2) := by decide +kernel
theorem dX11_homes_132 : decode cX11_homes 132 = .ok (.ireturn, 1) := by decide +kernel
theorem dX11_look_0 : decode cX11_look 0 = .ok (.aload_n 0, 1) := by decide +kernel
theorem dX11_look_1 : decode cX11_look 1 = .ok (.lload_n 1, 1) := by decide +kernel
theorem dX11_look_2 : decode cX11_look 2 = .ok (.iconst 2, 1) := by decide +kernel
theorem dX11_look_3 : decode cX11_look 3 = .ok (.iconst 5, 1) := by decide +kernel
theorem dX11_look_4 : decode cX11_look 4 = .ok (.invokevirtual 284, 3) := by decide +kernel
theorem dX11_look_7 : decode cX11_look 7 = .ok (.aload_n 0, 1) := by decide +kernel
theorem dX11_look_8 : decode cX11_look 8 = .ok (.iload 4, 2) := by decide +kernel
theorem dX11_look_10 : decode cX11_look 10 = .ok (.invokevirtual 301, 3) := by decide +kernel
theorem dX11_look_13 : decode cX11_look 13 = .ok (.iload 5, 2) := by decide +kernel
theorem dX11_look_15 : decode cX11_look 15 = .ok (.i2l, 1) := by decide +kernel
theorem dX11_look_16 : decode cX11_look 16 = .ok (.lconst 0, 1) := by decide +kernel
theorem dX11_look_17 : decode cX11_look 17 = .ok (.ldc2_w 261, 3) := by decide +kernel
theorem dX11_look_20 : decode cX11_look 20 = .ok (.invokestatic 131, 3) := by decide +kernel
theorem dX11_look_23 : decode cX11_look 23 = .ok (.ifCond .ne 14, 3) := by decide +kernel
theorem dX11_look_26 : decode cX11_look 26 = .ok (.new 109, 3) := by decide +kernel
theorem dX11_look_29 : decode cX11_look 29 = .ok (.dup, 1) := by decide +kernel
theorem dX11_look_30 : decode cX11_look 30 = .ok (.ldc_w 430, 3) := by decide +kernel
theorem dX11_look_33 : decode cX11_look 33 = .ok (.invokespecial 113, 3) := by decide +kernel
theorem dX11_look_36 : decode cX11_look 36 = .ok (.athrow, 1) := by decide +kernel
theorem dX11_look_37 : decode cX11_look 37 = .ok (.aload_n 0, 1) := by decide +kernel
theorem dX11_look_38 : decode cX11_look 38 = .ok (.lload_n 1, 1) := by decide +kernel
theorem dX11_look_39 : decode cX11_look 39 = .ok (.iload_n 3, 1) := by decide +kernel
theorem dX11_look_40 : decode cX11_look 40 = .ok (.invokevirtual 288, 3) := by decide +kernel
theorem dX11_look_43 : decode cX11_look 43 = .ok (.aload_n 0, 1) := by decide +kernel
theorem dX11_look_44 : decode cX11_look 44 = .ok (.getfield 42, 3) := by decide +kernel
theorem dX11_look_47 : decode cX11_look 47 = .ok (.aload_n 0, 1) := by decide +kernel
theorem dX11_look_48 : decode cX11_look 48 = .ok (.iload_n 3, 1) := by decide +kernel
theorem dX11_look_49 : decode cX11_look 49 = .ok (.invokevirtual 184, 3) := by decide +kernel
theorem dX11_look_52 : decode cX11_look 52 = .ok (.invokevirtual 432, 3) := by decide +kernel
theorem dX11_look_55 : decode cX11_look 55 = .ok (.iconst (-1), 1) := by decide +kernel
theorem dX11_look_56 : decode cX11_look 56 = .ok (.istore 6, 2) := by decide +kernel
theorem dX11_look_58 : decode cX11_look 58 = .ok (.iconst (-1), 1) := by decide +kernel
theorem dX11_look_59 : decode cX11_look 59 = .ok (.istore 7, 2) := by decide +kernel
theorem dX11_look_61 : decode cX11_look 61 = .ok (.iconst (-1), 1) := by decide +kernel
theorem dX11_look_62 : decode cX11_look 62 = .ok (.istore 8, 2) := by decide +kernel
theorem dX11_look_64 : decode cX11_look 64 = .ok (.iconst 0, 1) := by decide +kernel
theorem dX11_look_65 : decode cX11_look 65 = .ok (.istore 9, 2) := by decide +kernel
theorem dX11_look_67 : decode cX11_look 67 = .ok (.iload 9, 2) := by decide +kernel
theorem dX11_look_69 : decode cX11_look 69 = .ok (.aload_n 0, 1) := by decide +kernel
theorem dX11_look_70 : decode cX11_look 70 = .ok (.getfield 21, 3) := by decide +kernel
theorem dX11_look_73 : decode cX11_look 73 = .ok (.getfield 332, 3) := by decide +kernel
theorem dX11_look_76 : decode cX11_look 76 = .ok (.if_icmp .ge 119, 3) := by decide +kernel
theorem dX11_look_79 : decode cX11_look 79 = .ok (.iconst 0, 1) := by decide +kernel
theorem dX11_look_80 : decode cX11_look 80 = .ok (.istore 10, 2) := by decide +kernel
theorem dX11_look_82 : decode cX11_look 82 = .ok (.iload 10, 2) := by decide +kernel
theorem dX11_look_84 : decode cX11_look 84 = .ok (.aload_n 0, 1) := by decide +kernel
theorem dX11_look_85 : decode cX11_look 85 = .ok (.getfield 10, 3) := by decide +kernel
theorem dX11_look_88 : decode cX11_look 88 = .ok (.getfield 435, 3) := by decide +kernel
theorem dX11_look_91 : decode cX11_look 91 = .ok (.if_icmp .ge 98, 3) := by decide +kernel
theorem dX11_look_94 : decode cX11_look 94 = .ok (.lload_n 1, 1) := by decide +kernel
theorem dX11_look_95 : decode cX11_look 95 = .ok (.iload 9, 2) := by decide +kernel
theorem dX11_look_97 : decode cX11_look 97 = .ok (.invokestatic 192, 3) := by decide +kernel
theorem dX11_look_100 : decode cX11_look 100 = .ok (.ifCond .eq 83, 3) := by decide +kernel
theorem dX11_look_103 : decode cX11_look 103 = .ok (.aload_n 0, 1) := by decide +kernel
theorem dX11_look_104 : decode cX11_look 104 = .ok (.getfield 42, 3) := by decide +kernel
theorem dX11_look_107 : decode cX11_look 107 = .ok (.iload 9, 2) := by decide +kernel
theorem dX11_look_109 : decode cX11_look 109 = .ok (.iload 10, 2) := by decide +kernel
theorem dX11_look_111 : decode cX11_look 111 = .ok (.invokevirtual 177, 3) := by decide +kernel
theorem dX11_look_114 : decode cX11_look 114 = .ok (.ifCond .ne 69, 3) := by decide +kernel
theorem dX11_look_117 : decode cX11_look 117 = .ok (.aload_n 0, 1) := by decide +kernel
theorem dX11_look_118 : decode cX11_look 118 = .ok (.lload_n 1, 1) := by decide +kernel
theorem dX11_look_119 : decode cX11_look 119 = .ok (.iload 4, 2) := by decide +kernel
theorem dX11_look_121 : decode cX11_look 121 = .ok (.iload 9, 2) := by decide +kernel
theorem dX11_look_123 : decode cX11_look 123 = .ok (.iload 10, 2) := by decide +kernel
theorem dX11_look_125 : decode cX11_look 125 = .ok (.iconst 1, 1) := by decide +kernel
theorem dX11_look_126 : decode cX11_look 126 = .ok (.invokevirtual 438, 3) := by decide +kernel
theorem dX11_look_129 : decode cX11_look 129 = .ok (.aload_n 0, 1) := by decide +kernel
theorem dX11_look_130 : decode cX11_look 130 = .ok (.lload_n 1, 1) := by decide +kernel
theorem dX11_look_131 : decode cX11_look 131 = .ok (.iload 4, 2) := by decide +kernel
theorem dX11_look_133 : decode cX11_look 133 = .ok (.iload 9, 2) := by decide +kernel
theorem dX11_look_135 : decode cX11_look 135 = .ok (.iload 10, 2) := by decide +kernel
theorem dX11_look_137 : decode cX11_look 137 = .ok (.iconst 2, 1) := by decide +kernel
theorem dX11_look_138 : decode cX11_look 138 = .ok (.invokevirtual 438, 3) := by decide +kernel
theorem dX11_look_141 : decode cX11_look 141 = .ok (.invokestatic 336, 3) := by decide +kernel
theorem dX11_look_144 : decode cX11_look 144 = .ok (.istore 11, 2) := by decide +kernel
theorem dX11_look_146 : decode cX11_look 146 = .ok (.aload_n 0, 1) := by decide +kernel
theorem dX11_look_147 : decode cX11_look 147 = .ok (.getfield 42, 3) := by decide +kernel
theorem dX11_look_150 : decode cX11_look 150 = .ok (.iload 9, 2) := by decide +kernel
theorem dX11_look_152 : decode cX11_look 152 = .ok (.iload 10, 2) := by decide +kernel
theorem dX11_look_154 : decode cX11_look 154 = .ok (.iconst 0, 1) := by decide +kernel
theorem dX11_look_155 : decode cX11_look 155 = .ok (.invokevirtual 442, 3) := by decide +kernel
theorem dX11_look_158 : decode cX11_look 158 = .ok (.iload 8, 2) := by decide +kernel
theorem dX11_look_160 : decode cX11_look 160 = .ok (.iconst (-1), 1) := by decide +kernel
theorem dX11_look_161 : decode cX11_look 161 = .ok (.if_icmp .eq 10, 3) := by decide +kernel
theorem dX11_look_164 : decode cX11_look 164 = .ok (.iload 11, 2) := by decide +kernel
theorem dX11_look_166 : decode cX11_look 166 = .ok (.iload 8, 2) := by decide +kernel
theorem dX11_look_168 : decode cX11_look 168 = .ok (.if_icmp .ge 15, 3) := by decide +kernel
theorem dX11_look_171 : decode cX11_look 171 = .ok (.iload 9, 2) := by decide +kernel
theorem dX11_look_173 : decode cX11_look 173 = .ok (.istore 6, 2) := by decide +kernel
theorem dX11_look_175 : decode cX11_look 175 = .ok (.iload 10, 2) := by decide +kernel
theorem dX11_look_177 : decode cX11_look 177 = .ok (.istore 7, 2) := by decide +kernel
theorem dX11_look_179 : decode cX11_look 179 = .ok (.iload 11, 2) := by decide +kernel
theorem dX11_look_181 : decode cX11_look 181 = .ok (.istore 8, 2) := by decide +kernel
theorem dX11_look_183 : decode cX11_look 183 = .ok (.iinc 10 1, 3) := by decide +kernel
theorem dX11_look_186 : decode cX11_look 186 = .ok (.goto (-104), 3) := by decide +kernel
theorem dX11_look_189 : decode cX11_look 189 = .ok (.iinc 9 1, 3) := by decide +kernel
theorem dX11_look_192 : decode cX11_look 192 = .ok (.goto (-125), 3) := by decide +kernel
theorem dX11_look_195 : decode cX11_look 195 = .ok (.iload 5, 2) := by decide +kernel
theorem dX11_look_197 : decode cX11_look 197 = .ok (.ifCond .ne 8, 3) := by decide +kernel
theorem dX11_look_200 : decode cX11_look 200 = .ok (.iload 6, 2) := by decide +kernel
theorem dX11_look_202 : decode cX11_look 202 = .ok (.goto 16, 3) := by decide +kernel
theorem dX11_look_205 : decode cX11_look 205 = .ok (.iload 5, 2) := by decide +kernel
theorem dX11_look_207 : decode cX11_look 207 = .ok (.iconst 1, 1) := by decide +kernel
theorem dX11_look_208 : decode cX11_look 208 = .ok (.if_icmp .ne 8, 3) := by decide +kernel
theorem dX11_look_211 : decode cX11_look 211 = .ok (.iload 7, 2) := by decide +kernel
theorem dX11_look_213 : decode cX11_look 213 = .ok (.goto 5, 3) := by decide +kernel
theorem dX11_look_216 : decode cX11_look 216 = .ok (.iload 8, 2) := by decide +kernel
theorem dX11_look_218 : decode cX11_look 218 = .ok (.ireturn, 1) := by decide +kernel
theorem dX11_others_0 : decode cX11_others 0 = .ok (.aload_n 0, 1) := by decide +kernel
theorem dX11_others_1 : decode cX11_others 1 = .ok (.iload_n 1, 1) := by decide +kernel
theorem dX11_others_2 : decode cX11_others 2 = .ok (.invokevirtual 167, 3) := by decide +kernel
theorem dX11_others_5 : decode cX11_others 5 = .ok (.aload_n 0, 1) := by decide +kernel
theorem dX11_others_6 : decode cX11_others 6 = .ok (.iload_n 3, 1) := by decide +kernel
theorem dX11_others_7 : decode cX11_others 7 = .ok (.invokevirtual 184, 3) := by decide +kernel
theorem dX11_others_10 : decode cX11_others 10 = .ok (.astore 5, 2) := by decide +kernel
theorem dX11_others_12 : decode cX11_others 12 = .ok (.aload_n 0, 1) := by decide +kernel
theorem dX11_others_13 : decode cX11_others 13 = .ok (.getfield 50, 3) := by decide +kernel
theorem dX11_others_16 : decode cX11_others 16 = .ok (.aload 5, 2) := by decide +kernel
theorem dX11_others_18 : decode cX11_others 18 = .ok (.invokevirtual 253, 3) := by decide +kernel
theorem dX11_others_21 : decode cX11_others 21 = .ok (.aload_n 0, 1) := by decide +kernel
theorem dX11_others_22 : decode cX11_others 22 = .ok (.getfield 21, 3) := by decide +kernel
theorem dX11_others_25 : decode cX11_others 25 = .ok (.iload_n 1, 1) := by decide +kernel
theorem dX11_others_26 : decode cX11_others 26 = .ok (.invokevirtual 219, 3) := by decide +kernel
theorem dX11_others_29 : decode cX11_others 29 = .ok (.aload_n 0, 1) := by decide +kernel
theorem dX11_others_30 : decode cX11_others 30 = .ok (.getfield 21, 3) := by decide +kernel
theorem dX11_others_33 : decode cX11_others 33 = .ok (.invokevirtual 328, 3) := by decide +kernel
theorem dX11_others_36 : decode cX11_others 36 = .ok (.land, 1) := by decide +kernel
theorem dX11_others_37 : decode cX11_others 37 = .ok (.lstore 6, 2) := by decide +kernel
theorem dX11_others_39 : decode cX11_others 39 = .ok (.iconst 0, 1) := by decide +kernel
theorem dX11_others_40 : decode cX11_others 40 = .ok (.istore 8, 2) := by decide +kernel
theorem dX11_others_42 : decode cX11_others 42 = .ok (.iconst 0, 1) := by decide +kernel
theorem dX11_others_43 : decode cX11_others 43 = .ok (.istore 9, 2) := by decide +kernel
theorem dX11_others_45 : decode cX11_others 45 = .ok (.iload 9, 2) := by decide +kernel
theorem dX11_others_47 : decode cX11_others 47 = .ok (.aload_n 0, 1) := by decide +kernel
theorem dX11_others_48 : decode cX11_others 48 = .ok (.getfield 21, 3) := by decide +kernel
theorem dX11_others_51 : decode cX11_others 51 = .ok (.getfield 332, 3) := by decide +kernel
theorem dX11_others_54 : decode cX11_others 54 = .ok (.if_icmp .ge 43, 3) := by decide +kernel
theorem dX11_others_57 : decode cX11_others 57 = .ok (.lload 6, 2) := by decide +kernel
theorem dX11_others_59 : decode cX11_others 59 = .ok (.iload 9, 2) := by decide +kernel
theorem dX11_others_61 : decode cX11_others 61 = .ok (.invokestatic 192, 3) := by decide +kernel
theorem dX11_others_64 : decode cX11_others 64 = .ok (.ifCond .eq 27, 3) := by decide +kernel
theorem dX11_others_67 : decode cX11_others 67 = .ok (.iload 4, 2) := by decide +kernel
theorem dX11_others_69 : decode cX11_others 69 = .ok (.ifCond .ne 19, 3) := by decide +kernel
theorem dX11_others_72 : decode cX11_others 72 = .ok (.aload_n 0, 1) := by decide +kernel
theorem dX11_others_73 : decode cX11_others 73 = .ok (.getfield 50, 3) := by decide +kernel
theorem dX11_others_76 : decode cX11_others 76 = .ok (.aload 5, 2) := by decide +kernel
theorem dX11_others_78 : decode cX11_others 78 = .ok (.iload_n 1, 1) := by decide +kernel
theorem dX11_others_79 : decode cX11_others 79 = .ok (.iload 9, 2) := by decide +kernel
theorem dX11_others_81 : decode cX11_others 81 = .ok (.invokevirtual 274, 3) := by decide +kernel
theorem dX11_others_84 : decode cX11_others 84 = .ok (.iload_n 2, 1) := by decide +kernel
theorem dX11_others_85 : decode cX11_others 85 = .ok (.if_icmp .lt 6, 3) := by decide +kernel
theorem dX11_others_88 : decode cX11_others 88 = .ok (.iinc 8 1, 3) := by decide +kernel
theorem dX11_others_91 : decode cX11_others 91 = .ok (.iinc 9 1, 3) := by decide +kernel
theorem dX11_others_94 : decode cX11_others 94 = .ok (.goto (-49), 3) := by decide +kernel
theorem dX11_others_97 : decode cX11_others 97 = .ok (.iload 8, 2) := by decide +kernel
theorem dX11_others_99 : decode cX11_others 99 = .ok (.ireturn, 1) := by decide +kernel
theorem dX11_lots_0 : decode cX11_lots 0 = .ok (.aload_n 0, 1) := by decide +kernel
theorem dX11_lots_1 : decode cX11_lots 1 = .ok (.iload_n 1, 1) := by decide +kernel
theorem dX11_lots_2 : decode cX11_lots 2 = .ok (.invokevirtual 167, 3) := by decide +kernel
theorem dX11_lots_5 : decode cX11_lots 5 = .ok (.iload_n 3, 1) := by decide +kernel
theorem dX11_lots_6 : decode cX11_lots 6 = .ok (.ifCond .lt 16, 3) := by decide +kernel
theorem dX11_lots_9 : decode cX11_lots 9 = .ok (.iload 4, 2) := by decide +kernel
theorem dX11_lots_11 : decode cX11_lots 11 = .ok (.i2l, 1) := by decide +kernel
theorem dX11_lots_12 : decode cX11_lots 12 = .ok (.lconst 1, 1) := by decide +kernel
theorem dX11_lots_13 : decode cX11_lots 13 = .ok (.ldc2_w 445, 3) := by decide +kernel
theorem dX11_lots_16 : decode cX11_lots 16 = .ok (.invokestatic 131, 3) := by decide +kernel
theorem dX11_lots_19 : decode cX11_lots 19 = .ok (.ifCond .ne 14, 3) := by decide +kernel
theorem dX11_lots_22 : decode cX11_lots 22 = .ok (.new 109, 3) := by decide +kernel
theorem dX11_lots_25 : decode cX11_lots 25 = .ok (.dup, 1) := by decide +kernel
theorem dX11_lots_26 : decode cX11_lots 26 = .ok (.ldc_w 447, 3) := by decide +kernel
theorem dX11_lots_29 : decode cX11_lots 29 = .ok (.invokespecial 113, 3) := by decide +kernel
theorem dX11_lots_32 : decode cX11_lots 32 = .ok (.athrow, 1) := by decide +kernel
theorem dX11_lots_33 : decode cX11_lots 33 = .ok (.aload_n 0, 1) := by decide +kernel
theorem dX11_lots_34 : decode cX11_lots 34 = .ok (.iload_n 1, 1) := by decide +kernel
theorem dX11_lots_35 : decode cX11_lots 35 = .ok (.invokevirtual 318, 3) := by decide +kernel
theorem dX11_lots_38 : decode cX11_lots 38 = .ok (.aload_n 0, 1) := by decide +kernel
theorem dX11_lots_39 : decode cX11_lots 39 = .ok (.getfield 50, 3) := by decide +kernel
theorem dX11_lots_42 : decode cX11_lots 42 = .ok (.aload_n 0, 1) := by decide +kernel
theorem dX11_lots_43 : decode cX11_lots 43 = .ok (.iload 5, 2) := by decide +kernel
theorem dX11_lots_45 : decode cX11_lots 45 = .ok (.invokevirtual 184, 3) := by decide +kernel
theorem dX11_lots_48 : decode cX11_lots 48 = .ok (.invokevirtual 253, 3) := by decide +kernel
theorem dX11_lots_51 : decode cX11_lots 51 = .ok (.aload_n 0, 1) := by decide +kernel
theorem dX11_lots_52 : decode cX11_lots 52 = .ok (.aload_n 0, 1) := by decide +kernel
theorem dX11_lots_53 : decode cX11_lots 53 = .ok (.getfield 21, 3) := by decide +kernel
theorem dX11_lots_56 : decode cX11_lots 56 = .ok (.invokevirtual 328, 3) := by decide +kernel
theorem dX11_lots_59 : decode cX11_lots 59 = .ok (.iload_n 1, 1) := by decide +kernel
theorem dX11_lots_60 : decode cX11_lots 60 = .ok (.invokestatic 196, 3) := by decide +kernel
theorem dX11_lots_63 : decode cX11_lots 63 = .ok (.ldc2_w 200, 3) := by decide +kernel
theorem dX11_lots_66 : decode cX11_lots 66 = .ok (.lxor, 1) := by decide +kernel
theorem dX11_lots_67 : decode cX11_lots 67 = .ok (.land, 1) := by decide +kernel
theorem dX11_lots_68 : decode cX11_lots 68 = .ok (.invokevirtual 449, 3) := by decide +kernel
theorem dX11_lots_71 : decode cX11_lots 71 = .ok (.istore 6, 2) := by decide +kernel
theorem dX11_lots_73 : decode cX11_lots 73 = .ok (.iload_n 3, 1) := by decide +kernel
theorem dX11_lots_74 : decode cX11_lots 74 = .ok (.i2l, 1) := by decide +kernel
theorem dX11_lots_75 : decode cX11_lots 75 = .ok (.lstore 7, 2) := by decide +kernel
theorem dX11_lots_77 : decode cX11_lots 77 = .ok (.iconst 0, 1) := by decide +kernel
theorem dX11_lots_78 : decode cX11_lots 78 = .ok (.istore 9, 2) := by decide +kernel
theorem dX11_lots_80 : decode cX11_lots 80 = .ok (.iconst 0, 1) := by decide +kernel
theorem dX11_lots_81 : decode cX11_lots 81 = .ok (.istore 10, 2) := by decide +kernel
theorem dX11_lots_83 : decode cX11_lots 83 = .ok (.iload 10, 2) := by decide +kernel
theorem dX11_lots_85 : decode cX11_lots 85 = .ok (.iload 4, 2) := by decide +kernel
theorem dX11_lots_87 : decode cX11_lots 87 = .ok (.if_icmp .ge 76, 3) := by decide +kernel
theorem dX11_lots_90 : decode cX11_lots 90 = .ok (.aload_n 0, 1) := by decide +kernel
theorem dX11_lots_91 : decode cX11_lots 91 = .ok (.getfield 42, 3) := by decide +kernel
theorem dX11_lots_94 : decode cX11_lots 94 = .ok (.aload_n 0, 1) := by decide +kernel
theorem dX11_lots_95 : decode cX11_lots 95 = .ok (.iload 5, 2) := by decide +kernel
theorem dX11_lots_97 : decode cX11_lots 97 = .ok (.invokevirtual 184, 3) := by decide +kernel
theorem dX11_lots_100 : decode cX11_lots 100 = .ok (.invokevirtual 432, 3) := by decide +kernel
theorem dX11_lots_103 : decode cX11_lots 103 = .ok (.iconst 0, 1) := by decide +kernel
theorem dX11_lots_104 : decode cX11_lots 104 = .ok (.istore 11, 2) := by decide +kernel
theorem dX11_lots_106 : decode cX11_lots 106 = .ok (.iload 11, 2) := by decide +kernel
theorem dX11_lots_108 : decode cX11_lots 108 = .ok (.aload_n 0, 1) := by decide +kernel
theorem dX11_lots_109 : decode cX11_lots 109 = .ok (.getfield 10, 3) := by decide +kernel
theorem dX11_lots_112 : decode cX11_lots 112 = .ok (.getfield 435, 3) := by decide +kernel
theorem dX11_lots_115 : decode cX11_lots 115 = .ok (.if_icmp .ge 28, 3) := by decide +kernel
theorem dX11_lots_118 : decode cX11_lots 118 = .ok (.aload_n 0, 1) := by decide +kernel
theorem dX11_lots_119 : decode cX11_lots 119 = .ok (.getfield 42, 3) := by decide +kernel
theorem dX11_lots_122 : decode cX11_lots 122 = .ok (.iload 11, 2) := by decide +kernel
theorem dX11_lots_124 : decode cX11_lots 124 = .ok (.aload_n 0, 1) := by decide +kernel
theorem dX11_lots_125 : decode cX11_lots 125 = .ok (.getfield 106, 3) := by decide +kernel
theorem dX11_lots_128 : decode cX11_lots 128 = .ok (.iload 6, 2) := by decide +kernel
theorem dX11_lots_130 : decode cX11_lots 130 = .ok (.lload 7, 2) := by decide +kernel
theorem dX11_lots_132 : decode cX11_lots 132 = .ok (.invokevirtual 452, 3) := by decide +kernel
theorem dX11_lots_135 : decode cX11_lots 135 = .ok (.lstore 7, 2) := by decide +kernel
theorem dX11_lots_137 : decode cX11_lots 137 = .ok (.iinc 11 1, 3) := by decide +kernel
theorem dX11_lots_140 : decode cX11_lots 140 = .ok (.goto (-34), 3) := by decide +kernel
theorem dX11_lots_143 : decode cX11_lots 143 = .ok (.aload_n 0, 1) := by decide +kernel
theorem dX11_lots_144 : decode cX11_lots 144 = .ok (.iload_n 1, 1) := by decide +kernel
theorem dX11_lots_145 : decode cX11_lots 145 = .ok (.iload_n 2, 1) := by decide +kernel
theorem dX11_lots_146 : decode cX11_lots 146 = .ok (.iload 6, 2) := by decide +kernel
theorem dX11_lots_148 : decode cX11_lots 148 = .ok (.invokevirtual 456, 3) := by decide +kernel
theorem dX11_lots_151 : decode cX11_lots 151 = .ok (.ifCond .eq 6, 3) := by decide +kernel
theorem dX11_lots_154 : decode cX11_lots 154 = .ok (.iinc 9 1, 3) := by decide +kernel
theorem dX11_lots_157 : decode cX11_lots 157 = .ok (.iinc 10 1, 3) := by decide +kernel
theorem dX11_lots_160 : decode cX11_lots 160 = .ok (.goto (-77), 3) := by decide +kernel
theorem dX11_lots_163 : decode cX11_lots 163 = .ok (.iload 9, 2) := by decide +kernel
theorem dX11_lots_165 : decode cX11_lots 165 = .ok (.ireturn, 1) := by decide +kernel
theorem dX11_feed_0 : decode cX11_feed 0 = .ok (.aload_n 0, 1) := by decide +kernel
theorem dX11_feed_1 : decode cX11_feed 1 = .ok (.getfield 102, 3) := by decide +kernel
theorem dX11_feed_4 : decode cX11_feed 4 = .ok (.bipush 20, 2) := by decide +kernel
theorem dX11_feed_6 : decode cX11_feed 6 = .ok (.iadd, 1) := by decide +kernel
theorem dX11_feed_7 : decode cX11_feed 7 = .ok (.sipush 300, 3) := by decide +kernel
theorem dX11_feed_10 : decode cX11_feed 10 = .ok (.if_icmp .le 5, 3) := by decide +kernel
theorem dX11_feed_13 : decode cX11_feed 13 = .ok (.iconst (-1), 1) := by decide +kernel
theorem dX11_feed_14 : decode cX11_feed 14 = .ok (.ireturn, 1) := by decide +kernel
theorem dX11_feed_15 : decode cX11_feed 15 = .ok (.aload_n 0, 1) := by decide +kernel
theorem dX11_feed_16 : decode cX11_feed 16 = .ok (.iload_n 1, 1) := by decide +kernel
theorem dX11_feed_17 : decode cX11_feed 17 = .ok (.invokevirtual 460, 3) := by decide +kernel
theorem dX11_feed_20 : decode cX11_feed 20 = .ok (.aload_n 0, 1) := by decide +kernel
theorem dX11_feed_21 : decode cX11_feed 21 = .ok (.iload_n 2, 1) := by decide +kernel
theorem dX11_feed_22 : decode cX11_feed 22 = .ok (.invokevirtual 460, 3) := by decide +kernel
theorem dX11_feed_25 : decode cX11_feed 25 = .ok (.aload_n 0, 1) := by decide +kernel
theorem dX11_feed_26 : decode cX11_feed 26 = .ok (.iload_n 3, 1) := by decide +kernel
theorem dX11_feed_27 : decode cX11_feed 27 = .ok (.invokevirtual 460, 3) := by decide +kernel
theorem dX11_feed_30 : decode cX11_feed 30 = .ok (.aload_n 0, 1) := by decide +kernel
theorem dX11_feed_31 : decode cX11_feed 31 = .ok (.iload 4, 2) := by decide +kernel
theorem dX11_feed_33 : decode cX11_feed 33 = .ok (.invokevirtual 460, 3) := by decide +kernel
theorem dX11_feed_36 : decode cX11_feed 36 = .ok (.aload_n 0, 1) := by decide +kernel
theorem dX11_feed_37 : decode cX11_feed 37 = .ok (.iload 5, 2) := by decide +kernel
theorem dX11_feed_39 : decode cX11_feed 39 = .ok (.invokevirtual 460, 3) := by decide +kernel
theorem dX11_feed_42 : decode cX11_feed 42 = .ok (.aload_n 0, 1) := by decide +kernel
theorem dX11_feed_43 : decode cX11_feed 43 = .ok (.getfield 102, 3) := by decide +kernel
theorem dX11_feed_46 : decode cX11_feed 46 = .ok (.ireturn, 1) := by decide +kernel
theorem dX11_text_0 : decode cX11_text 0 = .ok (.iload_n 1, 1) := by decide +kernel
theorem dX11_text_1 : decode cX11_text 1 = .ok (.ifCond .lt 11, 3) := by decide +kernel
theorem dX11_text_4 : decode cX11_text 4 = .ok (.iload_n 1, 1) := by decide +kernel
theorem dX11_text_5 : decode cX11_text 5 = .ok (.aload_n 0, 1) := by decide +kernel
theorem dX11_text_6 : decode cX11_text 6 = .ok (.getfield 102, 3) := by decide +kernel
theorem dX11_text_9 : decode cX11_text 9 = .ok (.if_icmp .le 14, 3) := by decide +kernel
theorem dX11_text_12 : decode cX11_text 12 = .ok (.new 109, 3) := by decide +kernel
theorem dX11_text_15 : decode cX11_text 15 = .ok (.dup, 1) := by decide +kernel
theorem dX11_text_16 : decode cX11_text 16 = .ok (.ldc_w 463, 3) := by decide +kernel
theorem dX11_text_19 : decode cX11_text 19 = .ok (.invokespecial 113, 3) := by decide +kernel
theorem dX11_text_22 : decode cX11_text 22 = .ok (.athrow, 1) := by decide +kernel
theorem dX11_text_23 : decode cX11_text 23 = .ok (.aload_n 0, 1) := by decide +kernel
theorem dX11_text_24 : decode cX11_text 24 = .ok (.iconst 0, 1) := by decide +kernel
theorem dX11_text_25 : decode cX11_text 25 = .ok (.putfield 102, 3) := by decide +kernel
theorem dX11_text_28 : decode cX11_text 28 = .ok (.aload_n 0, 1) := by decide +kernel
theorem dX11_text_29 : decode cX11_text 29 = .ok (.getfield 87, 3) := by decide +kernel
theorem dX11_text_32 : decode cX11_text 32 = .ok (.aload_n 0, 1) := by decide +kernel
theorem dX11_text_33 : decode cX11_text 33 = .ok (.getfield 98, 3) := by decide +kernel
theorem dX11_text_36 : decode cX11_text 36 = .ok (.iload_n 1, 1) := by decide +kernel
theorem dX11_text_37 : decode cX11_text 37 = .ok (.invokevirtual 465, 3) := by decide +kernel
theorem dX11_text_40 : decode cX11_text 40 = .ok (.aload_n 0, 1) := by decide +kernel
theorem dX11_text_41 : decode cX11_text 41 = .ok (.getfield 87, 3) := by decide +kernel
theorem dX11_text_44 : decode cX11_text 44 = .ok (.getfield 469, 3) := by decide +kernel
theorem dX11_text_47 : decode cX11_text 47 = .ok (.ifCond .eq 14, 3) := by decide +kernel
theorem dX11_text_50 : decode cX11_text 50 = .ok (.bipush (-10), 2) := by decide +kernel
theorem dX11_text_52 : decode cX11_text 52 = .ok (.aload_n 0, 1) := by decide +kernel
theorem dX11_text_53 : decode cX11_text 53 = .ok (.getfield 87, 3) := by decide +kernel
theorem dX11_text_56 : decode cX11_text 56 = .ok (.getfield 469, 3) := by decide +kernel
theorem dX11_text_59 : decode cX11_text 59 = .ok (.isub, 1) := by decide +kernel
theorem dX11_text_60 : decode cX11_text 60 = .ok (.ireturn, 1) := by decide +kernel
theorem dX11_text_61 : decode cX11_text 61 = .ok (.aload_n 0, 1) := by decide +kernel
theorem dX11_text_62 : decode cX11_text 62 = .ok (.getfield 80, 3) := by decide +kernel
theorem dX11_text_65 : decode cX11_text 65 = .ok (.aload_n 0, 1) := by decide +kernel
theorem dX11_text_66 : decode cX11_text 66 = .ok (.getfield 87, 3) := by decide +kernel
theorem dX11_text_69 : decode cX11_text 69 = .ok (.getfield 472, 3) := by decide +kernel
theorem dX11_text_72 : decode cX11_text 72 = .ok (.invokevirtual 475, 3) := by decide +kernel
theorem dX11_text_75 : decode cX11_text 75 = .ok (.aload_n 0, 1) := by decide +kernel
theorem dX11_text_76 : decode cX11_text 76 = .ok (.getfield 80, 3) := by decide +kernel
theorem dX11_text_79 : decode cX11_text 79 = .ok (.getfield 478, 3) := by decide +kernel
theorem dX11_text_82 : decode cX11_text 82 = .ok (.ireturn, 1) := by decide +kernel
theorem dX11_fault_0 : decode cX11_fault 0 = .ok (.iload_n 1, 1) := by decide +kernel
theorem dX11_fault_1 : decode cX11_fault 1 = .ok (.ifCond .ne 11, 3) := by decide +kernel
theorem dX11_fault_4 : decode cX11_fault 4 = .ok (.aload_n 0, 1) := by decide +kernel
theorem dX11_fault_5 : decode cX11_fault 5 = .ok (.getfield 87, 3) := by decide +kernel
theorem dX11_fault_8 : decode cX11_fault 8 = .ok (.getfield 469, 3) := by decide +kernel
theorem dX11_fault_11 : decode cX11_fault 11 = .ok (.ireturn, 1) := by decide +kernel
theorem dX11_fault_12 : decode cX11_fault 12 = .ok (.iload_n 1, 1) := by decide +kernel
theorem dX11_fault_13 : decode cX11_fault 13 = .ok (.iconst 1, 1) := by decide +kernel
theorem dX11_fault_14 : decode cX11_fault 14 = .ok (.if_icmp .ne 13, 3) := by decide +kernel
theorem dX11_fault_17 : decode cX11_fault 17 = .ok (.aload_n 0, 1) := by decide +kernel
theorem dX11_fault_18 : decode cX11_fault 18 = .ok (.getfield 87, 3) := by decide +kernel
theorem dX11_fault_21 : decode cX11_fault 21 = .ok (.getfield 481, 3) := by decide +kernel
theorem dX11_fault_24 : decode cX11_fault 24 = .ok (.goto 4, 3) := by decide +kernel
theorem dX11_fault_27 : decode cX11_fault 27 = .ok (.iconst (-1), 1) := by decide +kernel
theorem dX11_fault_28 : decode cX11_fault 28 = .ok (.ireturn, 1) := by decide +kernel
theorem dX11_may_0 : decode cX11_may 0 = .ok (.aload_n 0, 1) := by decide +kernel
theorem dX11_may_1 : decode cX11_may 1 = .ok (.iload_n 1, 1) := by decide +kernel
theorem dX11_may_2 : decode cX11_may 2 = .ok (.invokevirtual 222, 3) := by decide +kernel
theorem dX11_may_5 : decode cX11_may 5 = .ok (.aload_n 0, 1) := by decide +kernel
theorem dX11_may_6 : decode cX11_may 6 = .ok (.iload_n 2, 1) := by decide +kernel
theorem dX11_may_7 : decode cX11_may 7 = .ok (.invokevirtual 167, 3) := by decide +kernel
theorem dX11_may_10 : decode cX11_may 10 = .ok (.aload_n 0, 1) := by decide +kernel
theorem dX11_may_11 : decode cX11_may 11 = .ok (.iload_n 1, 1) := by decide +kernel
theorem dX11_may_12 : decode cX11_may 12 = .ok (.iload_n 2, 1) := by decide +kernel
theorem dX11_may_13 : decode cX11_may 13 = .ok (.invokevirtual 484, 3) := by decide +kernel
theorem dX11_may_16 : decode cX11_may 16 = .ok (.ireturn, 1) := by decide +kernel
theorem dX11_ask_0 : decode cX11_ask 0 = .ok (.iload_n 1, 1) := by decide +kernel
theorem dX11_ask_1 : decode cX11_ask 1 = .ok (.i2l, 1) := by decide +kernel
theorem dX11_ask_2 : decode cX11_ask 2 = .ok (.lconst 0, 1) := by decide +kernel
theorem dX11_ask_3 : decode cX11_ask 3 = .ok (.aload_n 0, 1) := by decide +kernel
theorem dX11_ask_4 : decode cX11_ask 4 = .ok (.getfield 10, 3) := by decide +kernel
theorem dX11_ask_7 : decode cX11_ask 7 = .ok (.getfield 487, 3) := by decide +kernel
theorem dX11_ask_10 : decode cX11_ask 10 = .ok (.iconst 1, 1) := by decide +kernel
theorem dX11_ask_11 : decode cX11_ask 11 = .ok (.isub, 1) := by decide +kernel
theorem dX11_ask_12 : decode cX11_ask 12 = .ok (.i2l, 1) := by decide +kernel
theorem dX11_ask_13 : decode cX11_ask 13 = .ok (.invokestatic 131, 3) := by decide +kernel
theorem dX11_ask_16 : decode cX11_ask 16 = .ok (.ifCond .eq 30, 3) := by decide +kernel
theorem dX11_ask_19 : decode cX11_ask 19 = .ok (.aload_n 0, 1) := by decide +kernel
theorem dX11_ask_20 : decode cX11_ask 20 = .ok (.iload_n 2, 1) := by decide +kernel
theorem dX11_ask_21 : decode cX11_ask 21 = .ok (.invokevirtual 490, 3) := by decide +kernel
theorem dX11_ask_24 : decode cX11_ask 24 = .ok (.ifCond .eq 22, 3) := by decide +kernel
theorem dX11_ask_27 : decode cX11_ask 27 = .ok (.iload_n 3, 1) := by decide +kernel
theorem dX11_ask_28 : decode cX11_ask 28 = .ok (.i2l, 1) := by decide +kernel
theorem dX11_ask_29 : decode cX11_ask 29 = .ok (.lconst 0, 1) := by decide +kernel
theorem dX11_ask_30 : decode cX11_ask 30 = .ok (.aload_n 0, 1) := by decide +kernel
theorem dX11_ask_31 : decode cX11_ask 31 = .ok (.getfield 10, 3) := by decide +kernel
theorem dX11_ask_34 : decode cX11_ask 34 = .ok (.getfield 435, 3) := by decide +kernel
theorem dX11_ask_37 : decode cX11_ask 37 = .ok (.iconst 1, 1) := by decide +kernel
theorem dX11_ask_38 : decode cX11_ask 38 = .ok (.isub, 1) := by decide +kernel
theorem dX11_ask_39 : decode cX11_ask 39 = .ok (.i2l, 1) := by decide +kernel
theorem dX11_ask_40 : decode cX11_ask 40 = .ok (.invokestatic 131, 3) := by decide +kernel
theorem dX11_ask_43 : decode cX11_ask 43 = .ok (.ifCond .ne 5, 3) := by decide +kernel
theorem dX11_ask_46 : decode cX11_ask 46 = .ok (.iconst (-1), 1) := by decide +kernel
theorem dX11_ask_47 : decode cX11_ask 47 = .ok (.ireturn, 1) := by decide +kernel
theorem dX11_ask_48 : decode cX11_ask 48 = .ok (.aload_n 0, 1) := by decide +kernel
theorem dX11_ask_49 : decode cX11_ask 49 = .ok (.iload_n 1, 1) := by decide +kernel
theorem dX11_ask_50 : decode cX11_ask 50 = .ok (.iload_n 2, 1) := by decide +kernel
theorem dX11_ask_51 : decode cX11_ask 51 = .ok (.invokevirtual 484, 3) := by decide +kernel
theorem dX11_ask_54 : decode cX11_ask 54 = .ok (.ifCond .eq 15, 3) := by decide +kernel
theorem dX11_ask_57 : decode cX11_ask 57 = .ok (.aload_n 0, 1) := by decide +kernel
theorem dX11_ask_58 : decode cX11_ask 58 = .ok (.getfield 35, 3) := by decide +kernel
theorem dX11_ask_61 : decode cX11_ask 61 = .ok (.iload_n 2, 1) := by decide +kernel
theorem dX11_ask_62 : decode cX11_ask 62 = .ok (.iload_n 3, 1) := by decide +kernel
theorem dX11_ask_63 : decode cX11_ask 63 = .ok (.invokevirtual 177, 3) := by decide +kernel
theorem dX11_ask_66 : decode cX11_ask 66 = .ok (.goto 4, 3) := by decide +kernel
theorem dX11_ask_69 : decode cX11_ask 69 = .ok (.iconst (-1), 1) := by decide +kernel
theorem dX11_ask_70 : decode cX11_ask 70 = .ok (.ireturn, 1) := by decide +kernel
theorem dX11_kept_0 : decode cX11_kept 0 = .ok (.aload_n 0, 1) := by decide +kernel
theorem dX11_kept_1 : decode cX11_kept 1 = .ok (.iload_n 1, 1) := by decide +kernel
theorem dX11_kept_2 : decode cX11_kept 2 = .ok (.invokevirtual 167, 3) := by decide +kernel
theorem dX11_kept_5 : decode cX11_kept 5 = .ok (.aload_n 0, 1) := by decide +kernel
theorem dX11_kept_6 : decode cX11_kept 6 = .ok (.iload_n 1, 1) := by decide +kernel
theorem dX11_kept_7 : decode cX11_kept 7 = .ok (.invokevirtual 494, 3) := by decide +kernel
theorem dX11_kept_10 : decode cX11_kept 10 = .ok (.ireturn, 1) := by decide +kernel
theorem dX11_tray_0 : decode cX11_tray 0 = .ok (.aload_n 0, 1) := by decide +kernel
theorem dX11_tray_1 : decode cX11_tray 1 = .ok (.iload_n 1, 1) := by decide +kernel
theorem dX11_tray_2 : decode cX11_tray 2 = .ok (.invokevirtual 497, 3) := by decide +kernel
theorem dX11_tray_5 : decode cX11_tray 5 = .ok (.iload_n 2, 1) := by decide +kernel
theorem dX11_tray_6 : decode cX11_tray 6 = .ok (.i2l, 1) := by decide +kernel
theorem dX11_tray_7 : decode cX11_tray 7 = .ok (.lconst 0, 1) := by decide +kernel
theorem dX11_tray_8 : decode cX11_tray 8 = .ok (.ldc2_w 173, 3) := by decide +kernel
theorem dX11_tray_11 : decode cX11_tray 11 = .ok (.invokestatic 131, 3) := by decide +kernel
theorem dX11_tray_14 : decode cX11_tray 14 = .ok (.ifCond .eq 15, 3) := by decide +kernel
theorem dX11_tray_17 : decode cX11_tray 17 = .ok (.iload_n 3, 1) := by decide +kernel
theorem dX11_tray_18 : decode cX11_tray 18 = .ok (.i2l, 1) := by decide +kernel
theorem dX11_tray_19 : decode cX11_tray 19 = .ok (.lconst 0, 1) := by decide +kernel
theorem dX11_tray_20 : decode cX11_tray 20 = .ok (.ldc2_w 500, 3) := by decide +kernel
theorem dX11_tray_23 : decode cX11_tray 23 = .ok (.invokestatic 131, 3) := by decide +kernel
theorem dX11_tray_26 : decode cX11_tray 26 = .ok (.ifCond .ne 14, 3) := by decide +kernel
theorem dX11_tray_29 : decode cX11_tray 29 = .ok (.new 109, 3) := by decide +kernel
theorem dX11_tray_32 : decode cX11_tray 32 = .ok (.dup, 1) := by decide +kernel
theorem dX11_tray_33 : decode cX11_tray 33 = .ok (.ldc_w 502, 3) := by decide +kernel
theorem dX11_tray_36 : decode cX11_tray 36 = .ok (.invokespecial 113, 3) := by decide +kernel
theorem dX11_tray_39 : decode cX11_tray 39 = .ok (.athrow, 1) := by decide +kernel
theorem dX11_tray_40 : decode cX11_tray 40 = .ok (.aload_n 0, 1) := by decide +kernel
theorem dX11_tray_41 : decode cX11_tray 41 = .ok (.getfield 94, 3) := by decide +kernel
theorem dX11_tray_44 : decode cX11_tray 44 = .ok (.iload_n 1, 1) := by decide +kernel
theorem dX11_tray_45 : decode cX11_tray 45 = .ok (.iload_n 2, 1) := by decide +kernel
theorem dX11_tray_46 : decode cX11_tray 46 = .ok (.iload_n 3, 1) := by decide +kernel
theorem dX11_tray_47 : decode cX11_tray 47 = .ok (.invokevirtual 504, 3) := by decide +kernel
theorem dX11_tray_50 : decode cX11_tray 50 = .ok (.return_, 1) := by decide +kernel
theorem dX11_write_0 : decode cX11_write 0 = .ok (.aload_n 0, 1) := by decide +kernel
theorem dX11_write_1 : decode cX11_write 1 = .ok (.iload_n 1, 1) := by decide +kernel
theorem dX11_write_2 : decode cX11_write 2 = .ok (.invokevirtual 497, 3) := by decide +kernel
theorem dX11_write_5 : decode cX11_write 5 = .ok (.aload_n 0, 1) := by decide +kernel
theorem dX11_write_6 : decode cX11_write 6 = .ok (.iload_n 1, 1) := by decide +kernel
theorem dX11_write_7 : decode cX11_write 7 = .ok (.invokevirtual 506, 3) := by decide +kernel
theorem dX11_write_10 : decode cX11_write 10 = .ok (.iload_n 2, 1) := by decide +kernel
theorem dX11_write_11 : decode cX11_write 11 = .ok (.ifCond .lt 16, 3) := by decide +kernel
